/-! LEAST: adopt of the class -/
def dA (Kd R : Int → Int) : Nat → Int × (Int → Int) × (Int → Int)
  | 0 => (0, fun _ => 0, fun _ => 0)
  | n + 1 => if 0 < (dA Kd R n).1 ∧ (dA Kd R n).2.1 ((dA Kd R n).1 - 1) = lWy Kd R n ∧ (dA Kd R n).2.2 ((dA Kd R n).1 - 1) < 5 then ((dA Kd R n).1, (dA Kd R n).2.1, fun i => if i = (dA Kd R n).1 - 1 then (dA Kd R n).2.2 i + 1 else (dA Kd R n).2.2 i) else ((dA Kd R n).1 + 1, (fun i => if i = (dA Kd R n).1 then lWy Kd R n else (dA Kd R n).2.1 i), fun i => if i = (dA Kd R n).1 then 1 else (dA Kd R n).2.2 i)
theorem dA_y {Kd R : Int → Int} {n : Nat} (q : 0 < (dA Kd R n).1 ∧ (dA Kd R n).2.1 ((dA Kd R n).1 - 1) = lWy Kd R n ∧ (dA Kd R n).2.2 ((dA Kd R n).1 - 1) < 5) : dA Kd R (n + 1) = ((dA Kd R n).1, (dA Kd R n).2.1, fun i => if i = (dA Kd R n).1 - 1 then (dA Kd R n).2.2 i + 1 else (dA Kd R n).2.2 i) := if_pos q
theorem dA_n {Kd R : Int → Int} {n : Nat} (q : ¬ (0 < (dA Kd R n).1 ∧ (dA Kd R n).2.1 ((dA Kd R n).1 - 1) = lWy Kd R n ∧ (dA Kd R n).2.2 ((dA Kd R n).1 - 1) < 5)) : dA Kd R (n + 1) = ((dA Kd R n).1 + 1, (fun i => if i = (dA Kd R n).1 then lWy Kd R n else (dA Kd R n).2.1 i), fun i => if i = (dA Kd R n).1 then 1 else (dA Kd R n).2.2 i) := if_neg q
theorem dA_up (Kd R : Int → Int) (n : Nat) : ∀ k : Nat, (dA Kd R n).1 ≤ (dA Kd R (n + k)).1 := by
  intro k
  induction k with
  | zero => exact Int.le_refl _
  | succ k ih =>
    refine Int.le_trans ih ?_
    show (dA Kd R (n + k)).1 ≤ (dA Kd R (n + k + 1)).1
    by_cases q : 0 < (dA Kd R (n + k)).1 ∧ (dA Kd R (n + k)).2.1 ((dA Kd R (n + k)).1 - 1) = lWy Kd R (n + k) ∧ (dA Kd R (n + k)).2.2 ((dA Kd R (n + k)).1 - 1) < 5
    · rw [dA_y q]; exact Int.le_refl _
    · rw [dA_n q]; show (dA Kd R (n + k)).1 ≤ (dA Kd R (n + k)).1 + 1; omega
/-- as MOVES may be -/
def dOk (Kd R : Int → Int) (n : Nat) : Prop := (0 ≤ (dA Kd R n).1 ∧ (dA Kd R n).1 ≤ (n : Int)) ∧ (∀ i : Int, 0 ≤ i → i < (dA Kd R n).1 → (0 ≤ (dA Kd R n).2.1 i ∧ (dA Kd R n).2.1 i ≤ 3) ∧ (1 ≤ (dA Kd R n).2.2 i ∧ (dA Kd R n).2.2 i ≤ 5)) ∧ (0 < n → 0 < (dA Kd R n).1 ∧ (dA Kd R n).2.1 ((dA Kd R n).1 - 1) = lWy Kd R (n - 1))
theorem dA_ok {Kd R : Int → Int} : ∀ n : Nat, (∀ s : Nat, s < n → 0 ≤ lWy Kd R s ∧ lWy Kd R s ≤ 3) → dOk Kd R n := by
  intro n
  induction n with
  | zero => intro _; exact ⟨⟨Int.le_refl 0, Int.le_refl 0⟩, fun i i0 i1 => absurd (show i < 0 from i1) (by omega), fun z => absurd z (by decide)⟩
  | succ n ih =>
    intro hw
    obtain ⟨h1, h2, h3⟩ := ih (fun s hs => hw s (by omega))
    have w := hw n (by omega)
    by_cases q : 0 < (dA Kd R n).1 ∧ (dA Kd R n).2.1 ((dA Kd R n).1 - 1) = lWy Kd R n ∧ (dA Kd R n).2.2 ((dA Kd R n).1 - 1) < 5
    · unfold dOk
      rw [dA_y q]
      refine ⟨⟨h1.1, by show (dA Kd R n).1 ≤ ((n + 1 : Nat) : Int); omega⟩, fun i i0 i1 => ?_, fun _ => ⟨q.1, q.2.1⟩⟩
      have i1 : i < (dA Kd R n).1 := i1
      have := h2 i i0 i1
      refine ⟨this.1, ?_⟩
      show 1 ≤ (if i = (dA Kd R n).1 - 1 then (dA Kd R n).2.2 i + 1 else (dA Kd R n).2.2 i) ∧ (if i = (dA Kd R n).1 - 1 then (dA Kd R n).2.2 i + 1 else (dA Kd R n).2.2 i) ≤ 5
      by_cases e : i = (dA Kd R n).1 - 1
      · rw [if_pos e]
        have q3 := q.2.2
        rw [← e] at q3
        omega
      · rw [if_neg e]; exact this.2
    · unfold dOk
      rw [dA_n q]
      refine ⟨⟨by show 0 ≤ (dA Kd R n).1 + 1; omega, by show (dA Kd R n).1 + 1 ≤ ((n + 1 : Nat) : Int); omega⟩, fun i i0 i1 => ?_, fun _ => ⟨by show 0 < (dA Kd R n).1 + 1; omega, ?_⟩⟩
      · have i1 : i < (dA Kd R n).1 + 1 := i1
        show (0 ≤ (if i = (dA Kd R n).1 then lWy Kd R n else (dA Kd R n).2.1 i) ∧ (if i = (dA Kd R n).1 then lWy Kd R n else (dA Kd R n).2.1 i) ≤ 3) ∧ (1 ≤ (if i = (dA Kd R n).1 then 1 else (dA Kd R n).2.2 i) ∧ (if i = (dA Kd R n).1 then 1 else (dA Kd R n).2.2 i) ≤ 5)
        by_cases e : i = (dA Kd R n).1
        · rw [if_pos e, if_pos e]; exact ⟨w, by decide, by decide⟩
        · rw [if_neg e, if_neg e]; exact h2 i i0 (by omega)
      · show (if (dA Kd R n).1 + 1 - 1 = (dA Kd R n).1 then lWy Kd R n else (dA Kd R n).2.1 ((dA Kd R n).1 + 1 - 1)) = lWy Kd R (n + 1 - 1)
        rw [if_pos (by omega)]
        rfl
theorem sX5_appendStep19 {h : zMm} {K : Bool → zMm → Prop} {m w : Int} {Wf Lf : Int → Int} (hm : h 19 2 = m) (m0 : 0 ≤ m ∧ m ≤ 24) (hW : ∀ i : Int, 0 ≤ i → i < m → h 20 i = Wf i ∧ h 21 i = Lf i) (hr : ∀ i : Int, 0 ≤ i → i < m → (0 ≤ Wf i ∧ Wf i ≤ 3) ∧ (1 ≤ Lf i ∧ Lf i ≤ 5)) (w0 : 0 ≤ w ∧ w ≤ 3)
    (k1 : 0 < m ∧ Wf (m - 1) = w ∧ Lf (m - 1) < 5 → K true (zU h 21 (m - 1) (Lf (m - 1) + 1)))
    (k2 : ¬ (0 < m ∧ Wf (m - 1) = w ∧ Lf (m - 1) < 5) → m < 24 → K true (zU (zU (zU h 20 m w) 21 m 1) 19 2 (m + 1)))
    (k3 : ¬ (0 < m ∧ Wf (m - 1) = w ∧ Lf (m - 1) < 5) → m = 24 → K false h) : zCb mX5_appendStep [.ref 19, .int (zI w)] zS0 h K := by
  have ap : ¬ (0 < m ∧ Wf (m - 1) = w ∧ Lf (m - 1) < 5) → zCb mX5_append [.ref 19, .int (zI w), .int (zI 1)] zS0 h (fun b4 h4 => K b4 h4) := by
    intro q
    refine wX5_append m0_19 ?_
    rw [hm]
    exact ⟨⟨by omega, by omega⟩, fun c => ⟨⟨by omega, c⟩, k2 q c⟩, fun c => k3 q (by omega)⟩
  refine wX5_appendStep m0_19 ?_
  rw [hm]
  refine sX5_wayOf m0_19 (by rw [hm]; exact m0) ⟨by omega, by omega⟩ ?_
  rw [hm]
  by_cases c : 0 < m
  · have a1 := hW (m - 1) (by omega) (by omega)
    have a2 := hr (m - 1) (by omega) (by omega)
    rw [if_pos ⟨by omega, by omega⟩, show h (19 + 1) (m - 1) = Wf (m - 1) from a1.1]
    refine ⟨⟨by omega, by omega⟩, ⟨by omega, by omega⟩, fun q => ap (fun z => q z.2.1), fun q => ?_⟩
    refine sX5_stepsOf m0_19 (by rw [hm]; exact m0) ⟨by omega, by omega⟩ ?_
    rw [hm, if_pos ⟨by omega, by omega⟩, show h (19 + 2) (m - 1) = Lf (m - 1) from a1.2]
    exact ⟨⟨by omega, by omega⟩, fun z => ap (fun y => by omega), fun z => ⟨⟨by omega, by omega⟩, k1 ⟨c, q, by omega⟩⟩⟩
  · rw [if_neg (by omega)]
    exact ⟨by decide, ⟨by omega, by omega⟩, fun q => ap (fun z => c z.1), fun q => absurd q (by omega)⟩
/-- other MOVES, all else as it was -/
def zOm (a b : zMm) : Prop := (∀ o : Nat, o ≠ 5 → o ≠ 6 → o ≠ 7 → b o = a o) ∧ ∀ i : Int, i ≠ 0 → b 7 i = a 7 i
theorem WF.mo {a b : zMm} (W : WF a) (H : zOm a b) (M : zMW b) : WF b := by
  obtain ⟨W1, W2, W3, W4, W5, W6, W7, W8⟩ := W
  obtain ⟨go, g7⟩ := H
  refine ⟨?_, ?_, ?_, M, ?_, ?_, ?_, fun k hk => ?_⟩
  · rw [go 0 (by decide) (by decide) (by decide), go 1 (by decide) (by decide) (by decide), go 2 (by decide) (by decide) (by decide), go 3 (by decide) (by decide) (by decide)]; exact W1
  · rw [go 4 (by decide) (by decide) (by decide)]; exact W2
  · rw [go 4 (by decide) (by decide) (by decide), go 0 (by decide) (by decide) (by decide)]; exact W3
  · rw [g7 1 (by decide), go 8 (by decide) (by decide) (by decide)]; exact W5
  · rw [g7 2 (by decide), g7 3 (by decide)]; exact W6
  · unfold zWi at W7 ⊢
    rw [g7 4 (by decide), g7 5 (by decide), go 10 (by decide) (by decide) (by decide), go (10 + 1) (by decide) (by decide) (by decide), go (10 + 2) (by decide) (by decide) (by decide), go (10 + 3) (by decide) (by decide) (by decide), go (10 + 4) (by decide) (by decide) (by decide), go (10 + 5) (by decide) (by decide) (by decide), go 20 (by decide) (by decide) (by decide), go (20 + 1) (by decide) (by decide) (by decide), go (20 + 2) (by decide) (by decide) (by decide), go (20 + 3) (by decide) (by decide) (by decide), go (20 + 4) (by decide) (by decide) (by decide), go (20 + 5) (by decide) (by decide) (by decide)]
    exact W7
  · rw [go 30 (by decide) (by decide) (by decide), go 31 (by decide) (by decide) (by decide), go (32 + k) (by omega) (by omega) (by omega)]
    exact W8 k hk
theorem CR.mo {a b h h' : zMm} (C : CR a h) (H : zOm a b) (hF : ∀ o : Nat, ¬ (16 ≤ o ∧ o ≤ 21) → h' o = h o) (M : zMA b h') : CR b h' := by
  obtain ⟨h1, h2, h3, h4, h5, h6, h7⟩ := C
  obtain ⟨go, g7⟩ := H
  refine ⟨?_, M, ?_, ?_, fun k hk => ?_, ?_, ?_⟩
  · unfold cG zGA zHA at h1 ⊢
    rw [hF 11 (by decide), hF 12 (by decide), hF 13 (by decide), hF 14 (by decide), hF 15 (by decide), go 0 (by decide) (by decide) (by decide), go 1 (by decide) (by decide) (by decide), go 2 (by decide) (by decide) (by decide), go 3 (by decide) (by decide) (by decide), go 4 (by decide) (by decide) (by decide)]
    exact h1
  · unfold cT at h3 ⊢
    rw [hF 1 (by decide), hF 2 (by decide), g7 1 (by decide), go 8 (by decide) (by decide) (by decide)]
    exact h3
  · unfold cI cI1 at h4 ⊢
    rw [g7 4 (by decide), g7 5 (by decide), go 10 (by decide) (by decide) (by decide), go (10 + 1) (by decide) (by decide) (by decide), go (10 + 2) (by decide) (by decide) (by decide), go (10 + 3) (by decide) (by decide) (by decide), go (10 + 4) (by decide) (by decide) (by decide), go (10 + 5) (by decide) (by decide) (by decide), go 20 (by decide) (by decide) (by decide), go (20 + 1) (by decide) (by decide) (by decide), go (20 + 2) (by decide) (by decide) (by decide), go (20 + 3) (by decide) (by decide) (by decide), go (20 + 4) (by decide) (by decide) (by decide), go (20 + 5) (by decide) (by decide) (by decide)]
    rw [hF 71 (by decide), hF (52 + 1) (by decide), hF (52 + 2) (by decide), hF (52 + 4) (by decide), hF 65 (by decide), hF (65 + 1) (by decide), hF (65 + 2) (by decide), hF (58 + 1) (by decide), hF (58 + 2) (by decide), hF (58 + 4) (by decide), hF 68 (by decide), hF (68 + 1) (by decide), hF (68 + 2) (by decide)]
    exact h4
  · rw [go 30 (by decide) (by decide) (by decide), go 31 (by decide) (by decide) (by decide), go (32 + k) (by omega) (by omega) (by omega), hF (73 + 2 * k) (by omega), hF (74 + 2 * k) (by omega)]
    exact h5 k hk
  · unfold cO at h6 ⊢
    rw [g7 2 (by decide), g7 3 (by decide), hF 3 (by decide), hF 0 (by decide)]
    exact h6
  · unfold cL at h7 ⊢
    rw [go 0 (by decide) (by decide) (by decide), go 4 (by decide) (by decide) (by decide), hF 31 (by decide), hF 45 (by decide), hF 46 (by decide)]
    exact h7
def dM (a : zMm) : Int := (dA (a 0) (a 4) (lLen (a 0) (a 4))).1
def aAd (a : zMm) : zMm := fun o i => if o = 5 then (dA (a 0) (a 4) (lLen (a 0) (a 4))).2.1 i else if o = 6 then (dA (a 0) (a 4) (lLen (a 0) (a 4))).2.2 i else if o = 7 ∧ i = 0 then dM a else a o i
def aAdopt (a : zMm) : zMm := if fWhy a = 0 ∧ dM a ≤ 24 then aAd a else a
def fAdopt (a : zMm) : Int := if ¬ fWhy a = 0 then fWhy a else if dM a ≤ 24 then dM a else -3
theorem aAd_o (a : zMm) : zOm a (aAd a) := by
  refine ⟨fun o o5 o6 o7 => ?_, fun i hi => ?_⟩
  · funext i
    exact (if_neg o5).trans ((if_neg o6).trans (if_neg (fun z => o7 z.1)))
  · exact (if_neg (by decide)).trans ((if_neg (by decide)).trans (if_neg (fun z => hi z.2)))
theorem aAd_5 (a : zMm) (i : Int) : aAd a 5 i = (dA (a 0) (a 4) (lLen (a 0) (a 4))).2.1 i ∧ aAd a 6 i = (dA (a 0) (a 4) (lLen (a 0) (a 4))).2.2 i ∧ aAd a 7 0 = dM a := ⟨if_pos rfl, (if_neg (by decide)).trans (if_pos rfl), (if_neg (by decide)).trans ((if_neg (by decide)).trans (if_pos ⟨rfl, rfl⟩))⟩
theorem fWhy_0 {a : zMm} (z : fWhy a = 0) : lRk (a 0) 36 ≤ 7 ∧ lMin (a 0) (a 4) < 1000000 := by
  unfold fWhy at z
  split at z
  · split at z
    · rename_i q1 q2
      exact ⟨q1, q2⟩
    · exact absurd z (by decide)
  · exact absurd z (by decide)
theorem dM_ok {a : zMm} (W : WF a) (z : fWhy a = 0) {n : Nat} (hn : n ≤ lLen (a 0) (a 4)) : dOk (a 0) (a 4) n := by
  obtain ⟨hG, hf⟩ := fWhy_0 z
  obtain ⟨l1, l2, l3⟩ := lLen_ok W.2.1 hG W.2.2.1 hf
  exact dA_ok n (fun s hs => (sS_way W.2.1 hG W.2.2.1 hf (l3 s (by omega))).1)
theorem wAdopt {a : zMm} (W : WF a) : WF (aAdopt a) := by
  unfold aAdopt
  split
  · rename_i q
    obtain ⟨d1, d2, -⟩ := dM_ok W q.1 (Nat.le_refl _)
    refine W.mo (aAd_o a) ⟨?_, fun i i0 i1 => ?_⟩
    · rw [(aAd_5 a 0).2.2]; exact ⟨d1.1, q.2⟩
    · rw [(aAd_5 a 0).2.2] at i1
      rw [(aAd_5 a i).1, (aAd_5 a i).2.1]
      exact d2 i i0 i1
  · exact W
theorem cAdopt {a h : zMm} {K : Int → zMm → Prop} (W : WF a) (C : CR a h) (hK : ∀ h', CR (aAdopt a) h' → zHi81 h h' → K (fAdopt a) h') : zCi mX11_adopt [.ref 0] zS0 h K := by
  have hw := fWhy_R a
  have rw0 : zR (fWhy a) := by rcases hw with e | e | e <;> rw [e] <;> decide
  refine wX11_adopt (sX11_seekLeast W C (fun h2 C2 F2 S2 => ⟨rw0, fun z => ?_, fun z => ?_⟩))
  · obtain ⟨S, hf⟩ := S2 z
    obtain ⟨k1, k2, k3⟩ := S.2.2.2 hf
    obtain ⟨hG, -⟩ := fWhy_0 z
    obtain ⟨l1, l2, l3⟩ := lLen_ok W.2.1 hG W.2.2.1 hf
    have full : ∀ g : zMm, (∀ o : Nat, ¬ (19 ≤ o ∧ o ≤ 21) → g o = h2 o) → 24 < dM a → K (-3) g := by
      intro g F d
      have e1 : aAdopt a = a := if_neg (fun y => by omega)
      have e2 : fAdopt a = -3 := by unfold fAdopt; rw [if_neg (fun y => y z), if_neg (by omega)]
      have fin := hK g (by rw [e1]; exact C2.scr (fun o ho => F o (by omega))) (fun o ho => (F o (by omega)).trans (F2 o ho))
      rw [e2] at fin
      exact fin
    have lp : ∀ (n s : Nat) (g : zMm), s + n = lLen (a 0) (a 4) → (∀ o : Nat, ¬ (19 ≤ o ∧ o ≤ 21) → g o = h2 o) → (dA (a 0) (a 4) s).1 ≤ 24 → g 19 2 = (dA (a 0) (a 4) s).1 → (∀ i : Int, 0 ≤ i → i < (dA (a 0) (a 4) s).1 → g 20 i = (dA (a 0) (a 4) s).2.1 i ∧ g 21 i = (dA (a 0) (a 4) s).2.2 i) → RR mX11_adopt 0 0 21 [some (.ref 0), none, some (.int (zI (s : Int)))] [] zS0 g (zQi zS0 K) := by
      intro n
      induction n with
      | zero =>
        intro s g hs F m24 e19 D
        obtain rfl : s = lLen (a 0) (a 4) := by omega
        refine bX11_adopt_21 ?_
        rw [F 31 (by decide), k1]
        refine ⟨⟨by omega, by omega⟩, ⟨by omega, by omega⟩, fun _ => wX5_takeAll m0_16 m0_19 ?_, fun y => absurd (Int.le_refl _) y⟩
        have e1 : aAdopt a = aAd a := if_pos ⟨z, m24⟩
        have e2 : fAdopt a = dM a := by unfold fAdopt; rw [if_neg (fun y => y z), if_pos (show dM a ≤ 24 from m24)]
        have eM : (zCp (zCp g (19 + 1) (16 + 1) 24) (19 + 2) (16 + 2) 24) 19 2 = dM a := by
          rw [zCp_off 19 (by decide), zCp_off 19 (by decide)]; exact e19
        have o1 := (dM_ok W z (Nat.le_refl _)).1
        rw [eM]
        generalize hq : zU (zCp (zCp g (19 + 1) (16 + 1) 24) (19 + 2) (16 + 2) 24) 16 2 (dM a) = q
        have q16 : q 16 2 = dM a := by rw [← hq, zU_eq]
        rw [q16, ← e2]
        have qF : ∀ o : Nat, ¬ (16 ≤ o ∧ o ≤ 21) → q o = h2 o := fun o ho => by
          rw [← hq, zU_off o (by omega), zCp_off o (by omega), zCp_off o (by omega)]
          exact F o (by omega)
        refine hK q ?_ (fun o ho => (qF o (by omega)).trans (F2 o ho))
        rw [e1]
        refine C2.mo (aAd_o a) qF ⟨?_, fun i i0 i1 => ?_⟩
        · rw [(aAd_5 a 0).2.2]; exact q16
        · rw [(aAd_5 a 0).2.2] at i1
          have i1 : i < (dA (a 0) (a 4) (lLen (a 0) (a 4))).1 := i1
          rw [(aAd_5 a i).1, (aAd_5 a i).2.1, ← hq]
          have d := D i i0 i1
          refine ⟨?_, ?_⟩
          · rw [zU_off 17 (by decide), zCp_off 17 (by decide)]
            exact (zCp_in (a1 := 17) i0 (by omega)).trans d.1
          · rw [zU_off 18 (by decide)]
            refine (zCp_in (a1 := 18) i0 (by omega)).trans ?_
            rw [zCp_off (19 + 2) (by decide)]
            exact d.2
      | succ n ih =>
        intro s g hs F m24 e19 D
        have w := (sS_way W.2.1 hG W.2.2.1 hf (l3 s (by omega))).1
        obtain ⟨d1, d2, -⟩ := dM_ok W z (n := s) (by omega)
        refine bX11_adopt_21 ?_
        rw [F 31 (by decide), k1]
        refine ⟨⟨by omega, by omega⟩, ⟨by omega, by omega⟩, fun y => absurd y (by omega), fun _ => wX4_wayOf ?_⟩
        rw [F 31 (by decide), k1]
        refine sX11_isWithin ⟨by omega, by omega⟩ (by decide) ⟨by omega, by omega⟩ ?_
        simp only [decide_eq_true_eq, decide_eq_false_iff_not]
        refine ⟨fun y => absurd (show (0 : Int) ≤ (s : Int) ∧ (s : Int) ≤ ((lLen (a 0) (a 4) : Nat) : Int) - 1 by omega) y, fun _ => ⟨⟨by omega, by omega⟩, ?_⟩⟩
        rw [F 46 (by decide), k3 s (by omega), show (s : Int) + 1 = ((s + 1 : Nat) : Int) by omega]
        refine sX5_appendStep19 (Wf := (dA (a 0) (a 4) s).2.1) (Lf := (dA (a 0) (a 4) s).2.2) e19 ⟨d1.1, m24⟩ D d2 w (fun q => ⟨fun _ => ?_, fun y => absurd y (by decide)⟩) (fun q l => ⟨fun _ => ?_, fun y => absurd y (by decide)⟩) (fun q l => ⟨fun y => absurd y (by decide), fun _ => ?_⟩)
        · have e := dA_y q
          refine ih (s + 1) _ (by omega) (fun o ho => (zU_off o (by omega)).trans (F o ho)) (by rw [e]; exact m24) (by rw [e, zU_off 19 (by decide)]; exact e19) (fun i i0 i1 => ?_)
          rw [e] at i1 ⊢
          have d := D i i0 i1
          refine ⟨?_, ?_⟩
          · rw [zU_off 20 (by decide)]; exact d.1
          · show zU g 21 _ _ 21 i = if i = (dA (a 0) (a 4) s).1 - 1 then (dA (a 0) (a 4) s).2.2 i + 1 else (dA (a 0) (a 4) s).2.2 i
            by_cases c : i = (dA (a 0) (a 4) s).1 - 1
            · rw [if_pos c, c, zU_eq]
            · rw [if_neg c, zU_ne (fun y => c y.2)]; exact d.2
        · have e := dA_n q
          refine ih (s + 1) _ (by omega) (fun o ho => ?_) (by rw [e]; show (dA (a 0) (a 4) s).1 + 1 ≤ 24; omega) (by rw [e, zU_eq]) (fun i i0 i1 => ?_)
          · rw [zU_off o (by omega), zU_off o (by omega), zU_off o (by omega)]; exact F o ho
          · rw [e] at i1 ⊢
            have i1 : i < (dA (a 0) (a 4) s).1 + 1 := i1
            show _ = (if i = (dA (a 0) (a 4) s).1 then lWy (a 0) (a 4) s else (dA (a 0) (a 4) s).2.1 i) ∧ _ = (if i = (dA (a 0) (a 4) s).1 then 1 else (dA (a 0) (a 4) s).2.2 i)
            by_cases c : i = (dA (a 0) (a 4) s).1
            · rw [if_pos c, if_pos c, c]
              refine ⟨?_, ?_⟩
              · rw [zU_off 20 (by decide), zU_off 20 (by decide), zU_eq]
              · rw [zU_off 21 (by decide), zU_eq]
            · rw [if_neg c, if_neg c]
              have d := D i i0 (by omega)
              refine ⟨?_, ?_⟩
              · rw [zU_off 20 (by decide), zU_off 20 (by decide), zU_ne (fun y => c y.2)]; exact d.1
              · rw [zU_off 21 (by decide), zU_ne (fun y => c y.2), zU_off 21 (by decide)]; exact d.2
        · have e := dA_n q
          have up := dA_up (a 0) (a 4) (s + 1) n
          rw [show s + 1 + n = lLen (a 0) (a 4) by omega, e] at up
          have up : (dA (a 0) (a 4) s).1 + 1 ≤ dM a := up
          exact full g F (by omega)
    exact lp (lLen (a 0) (a 4)) 0 _ (by omega) (fun o ho => zU_off o (by omega)) (show (0 : Int) ≤ 24 by decide) (zU_eq _ _ _ _) (fun i i0 i1 => absurd (show i < 0 from i1) (by omega))
  · have e1 : aAdopt a = a := if_neg (fun y => z y.1)
    have e2 : fAdopt a = fWhy a := by unfold fAdopt; rw [if_pos z]
    have fin := hK h2 (by rw [e1]; exact C2) F2
    rw [e2] at fin
    exact fin
