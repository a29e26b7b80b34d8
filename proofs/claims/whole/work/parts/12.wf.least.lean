/-! LEAST: least, tree, dearest of the class -/
def fLeast (a : zMm) (w : Int) : Int := if ¬ (0 ≤ w ∧ w ≤ 2) ∧ w < 10 then -1 else if ¬ fWhy a = 0 then fWhy a else if w = 0 then lMin (a 0) (a 4) else if w = 1 then (lLen (a 0) (a 4) : Nat) else if w = 2 then sQ (a 0) (a 4) (lLen (a 0) (a 4)) else if w - 10 < ((lLen (a 0) (a 4) : Nat) : Int) then lWy (a 0) (a 4) (w - 10).toNat else -1
theorem fWhy_R (a : zMm) : fWhy a = 0 ∨ fWhy a = -4 ∨ fWhy a = -2 := by
  unfold fWhy
  repeat' split
  · exact Or.inl rfl
  · exact Or.inr (Or.inl rfl)
  · exact Or.inr (Or.inr rfl)
theorem cLeast {a h : zMm} {v1 : Int} {K : Int → zMm → Prop} (W : WF a) (C : CR a h) (r1 : zR v1) (hK : ∀ h', CR a h' → zHi81 h h' → K (fLeast a v1) h') : zCi mX11_least [.ref 0, .int (zI v1)] zS0 h K := by
  have hw := fWhy_R a
  have rw0 : zR (fWhy a) := by rcases hw with e | e | e <;> rw [e] <;> decide
  have len : fWhy a = 0 → lMin (a 0) (a 4) < 1000000 → lLen (a 0) (a 4) ≤ 252 := fun z hf => by
    have hG : lRk (a 0) 36 ≤ 7 := by
      refine Classical.byContradiction (fun y => ?_)
      unfold fWhy at z
      rw [if_neg y] at z
      exact absurd z (by decide)
    exact (lLen_ok W.2.1 hG W.2.2.1 hf).1
  have way : ∀ h2 : zMm, ¬ (0 ≤ v1 ∧ v1 ≤ 2) → 10 ≤ v1 → fWhy a = 0 → CR a h2 → zHi81 h h2 → cSo a h2 → lMin (a 0) (a 4) < 1000000 → zCi mX4_wayOf [.ref 31, .int (zI (v1 - 10))] zS0 h2 (fun x5 h5 => K x5 h5) := by
    intro h2 c1 c2 z C2 F2 S hf
    obtain ⟨k1, k2, k3⟩ := S.2.2.2 hf
    have ln := len z hf
    have e : fLeast a v1 = if v1 - 10 < ((lLen (a 0) (a 4) : Nat) : Int) then lWy (a 0) (a 4) (v1 - 10).toNat else -1 := by
      unfold fLeast
      rw [if_neg (fun y => by omega), if_neg (fun y => y z), if_neg (by omega), if_neg (by omega), if_neg (by omega)]
    refine wX4_wayOf ?_
    rw [k1]
    refine sX11_isWithin ⟨by omega, by omega⟩ (by decide) ⟨by omega, by omega⟩ ?_
    simp only [decide_eq_true_eq, decide_eq_false_iff_not]
    have fin := hK h2 C2 F2
    rw [e] at fin
    refine ⟨fun q => ?_, fun q => ⟨⟨by omega, by omega⟩, ?_⟩⟩
    · rw [if_neg (by omega)] at fin; exact fin
    · rw [if_pos (by omega)] at fin
      rw [show v1 - 10 = (((v1 - 10).toNat : Nat) : Int) by omega, k3 _ (by omega)]
      exact fin
  refine wX11_least (sX11_isWithin r1 (by decide) (by decide) ?_)
  simp only [decide_eq_true_eq, decide_eq_false_iff_not]
  refine ⟨fun c => sX11_seekLeast W C (fun h2 C2 F2 S2 => ⟨rw0, fun z => ⟨r1, ?_⟩, fun z => ?_⟩), fun c => ⟨r1, fun c2 => sX11_seekLeast W C (fun h2 C2 F2 S2 => ⟨rw0, fun z => ?_, fun z => ?_⟩), fun c2 => ?_⟩⟩
  · obtain ⟨S, hf⟩ := S2 z
    obtain ⟨k1, k2, k3⟩ := S.2.2.2 hf
    have fin := hK h2 C2 F2
    unfold fLeast at fin
    rw [if_neg (fun y => y.1 c), if_neg (fun y => y z)] at fin
    refine ⟨fun e => ?_, fun e => ?_, fun e => ?_, fun e => absurd c (by omega)⟩
    · rw [if_pos e] at fin; rw [S.2.2.1]; exact fin
    · rw [if_neg (by omega), if_pos e] at fin; rw [k1]; exact fin
    · rw [if_neg (by omega), if_neg (by omega), if_pos e] at fin; rw [k2]; exact fin
  · have fin := hK h2 C2 F2
    unfold fLeast at fin
    rw [if_neg (fun y => y.1 c), if_pos z] at fin
    exact fin
  · obtain ⟨S, hf⟩ := S2 z
    exact ⟨fun e => absurd c2 (by omega), fun e => absurd c2 (by omega), fun e => absurd c2 (by omega), fun e => way h2 c c2 z C2 F2 S hf⟩
  · have fin := hK h2 C2 F2
    unfold fLeast at fin
    rw [if_neg (fun y => by omega), if_pos z] at fin
    exact fin
  · have fin := hK h C (fun _ _ => rfl)
    unfold fLeast at fin
    rw [if_pos ⟨c, by omega⟩] at fin
    exact fin
theorem sX4_costOf {a h : zMm} {c : Int} {K : Int → zMm → Prop} (W : WF a) (C : CR a h) (S : cSo a h) (hc : 0 ≤ c ∧ c < 36) (hk : a 0 c = 2) (hK : ∀ h', CR a h' → zHi81 h h' → cSo a h' → (h' 31 14 = h 31 14 ∧ h' 31 18 = h 31 18 ∧ h' 31 19 = h 31 19) → K (lCs (a 0) (a 4) c) h') : zCi mX4_costOf [.ref 31, .ref 10, .int (zI c)] zS0 h K := by
  have hR := W.2.1
  have hG := S.2.1
  have bb : ∀ x : Int, 0 ≤ bI (if x < 0 then false else true) ∧ bI (if x < 0 then false else true) ≤ 1 ∧ (0 ≤ x → bI (if x < 0 then false else true) = 1) := fun x => by
    by_cases q : x < 0
    · rw [if_pos q]; exact ⟨by decide, by decide, fun z => absurd q (by omega)⟩
    · rw [if_neg q]; exact ⟨by decide, by decide, fun _ => rfl⟩
  have nx : ∀ w : Int, zR (zNx (a 0) c w) := fun w => by
    rcases zNx_R (Kd := a 0) (way := w) hc with e | e
    · rw [e]; decide
    · exact ⟨by omega, by omega⟩
  have b0 := bb (zNx (a 0) c 0)
  have b1 := bb (zNx (a 0) c 1)
  have b2 := bb (zNx (a 0) c 2)
  have b3 := bb (zNx (a 0) c 3)
  have Gk := C.1.1.1
  refine wX4_costOf (bX4_costOf_5 ⟨by decide, fun z => absurd z (by decide), fun _ => sX3_ahead g0_10 Gk hc (by decide) ⟨nx 0, ?_⟩⟩)
  rw [show (0 : Int) + 1 = 1 from rfl]
  refine bX4_costOf_5 ⟨by decide, fun z => absurd z (by decide), fun _ => sX3_ahead g0_10 Gk hc (by decide) ⟨nx 1, ?_⟩⟩
  rw [show (1 : Int) + 1 = 2 from rfl]
  refine bX4_costOf_5 ⟨by decide, fun z => absurd z (by decide), fun _ => sX3_ahead g0_10 Gk hc (by decide) ⟨nx 2, ?_⟩⟩
  rw [show (2 : Int) + 1 = 3 from rfl]
  refine bX4_costOf_5 ⟨by decide, fun z => absurd z (by decide), fun _ => sX3_ahead g0_10 Gk hc (by decide) ⟨nx 3, ?_⟩⟩
  rw [show (3 : Int) + 1 = 4 from rfl]
  generalize bI (if zNx (a 0) c 0 < 0 then false else true) = y0 at b0 ⊢
  generalize bI (if zNx (a 0) c 1 < 0 then false else true) = y1 at b1 ⊢
  generalize bI (if zNx (a 0) c 2 < 0 then false else true) = y2 at b2 ⊢
  generalize bI (if zNx (a 0) c 3 < 0 then false else true) = y3 at b3 ⊢
  refine bX4_costOf_5 ⟨by decide, fun _ => ⟨⟨by omega, by omega⟩, fun _ => ?_, fun q => ?_⟩, fun z => absurd (show (4 : Int) ≤ 4 by decide) z⟩
  · have hne : a 4 0 ≠ c := fun z => W.2.2.1 (by rw [z]; exact hk)
    refine sX4_minutesWith hR (by rw [lRk_lUp hk]; exact hG) (by rw [lUp_o hne]; exact W.2.2.1) C.2.2.2.2.2.2.1 C.1.1.2 (Or.inr ⟨a 0, hc, Gk, rfl⟩) (fun h' F L => ?_)
    have fi : ∀ i : Int, ¬ (10 ≤ i ∧ i ≤ 12) → h' 31 i = h 31 i := F.2
    have S' : cSo a h' := by
      unfold cSo cKp at S ⊢
      rw [fi 13 (by decide), fi 15 (by decide), fi 16 (by decide), fi 17 (by decide), F.1 46 (by decide)]
      exact S
    have z : (h 31 15) - lMin (lUp (a 0) c) (a 4) = lCs (a 0) (a 4) c := by rw [S.2.2.1]; rfl
    rw [z]
    refine hK h' (C.ld (fun o ho => F.1 o (by omega)) (cL_of L.2.2.2.2 S' ?_)) (fun o ho => F.1 o (by omega)) S' ⟨fi 14 (by decide), fi 18 (by decide), fi 19 (by decide)⟩
    rw [fi 14 (by decide), fi 18 (by decide), fi 19 (by decide)]
    exact C.2.2.2.2.2.2.2.2
  · have e : lCs (a 0) (a 4) c = 0 := by
      have := lM_dead (R := a 4) hR hG hk hc W.2.2.1 (fun w v w0 w1 v0 v1 p q => by
        rcases (show w = 0 ∨ w = 1 ∨ w = 2 ∨ w = 3 by omega) with rfl | rfl | rfl | rfl <;> rcases (show v = 0 ∨ v = 1 ∨ v = 2 ∨ v = 3 by omega) with rfl | rfl | rfl | rfl <;> first | rfl | (have := b0.2.2; have := b1.2.2; have := b2.2.2; have := b3.2.2; omega))
      unfold lCs
      rw [this]
      omega
    rw [← e]
    exact hK h C (fun _ _ => rfl) S ⟨rfl, rfl, rfl⟩
def fTree (a : zMm) (c : Int) : Int := if ¬ ((0 ≤ c ∧ c < 36) ∧ a 0 c = 2) then -1 else if ¬ fWhy a = 0 then fWhy a else lCs (a 0) (a 4) c
theorem cTree {a h : zMm} {v1 : Int} {K : Int → zMm → Prop} (W : WF a) (C : CR a h) (r1 : zR v1) (hK : ∀ h', CR a h' → zHi81 h h' → K (fTree a v1) h') : zCi mX11_tree [.ref 0, .int (zI v1)] zS0 h K := by
  have hw := fWhy_R a
  have rw0 : zR (fWhy a) := by rcases hw with e | e | e <;> rw [e] <;> decide
  refine wX11_tree (sX11_isCell r1 ?_)
  simp only [decide_eq_true_eq, decide_eq_false_iff_not]
  refine ⟨fun c => ?_, fun c => ⟨c, ?_⟩⟩
  · have fin := hK h C (fun _ _ => rfl)
    unfold fTree at fin
    rw [if_pos (fun z => c z.1)] at fin
    exact fin
  · obtain ⟨g1, g2, g3⟩ := C.1.1.1 v1 c.1 c.2
    rw [g1]
    refine ⟨⟨by omega, by omega⟩, fun c2 => sX11_seekLeast W C (fun h2 C2 F2 S2 => ⟨rw0, fun z => ?_, fun z => ?_⟩), fun c2 => ?_⟩
    · obtain ⟨S, hf⟩ := S2 z
      refine sX4_costOf W C2 S c c2 (fun h3 C3 F3 S3 _ => ?_)
      have fin := hK h3 C3 (fun o ho => (F3 o ho).trans (F2 o ho))
      unfold fTree at fin
      rw [if_neg (fun y => y ⟨c, c2⟩), if_neg (fun y => y z)] at fin
      exact fin
    · have fin := hK h2 C2 F2
      unfold fTree at fin
      rw [if_neg (fun y => y ⟨c, c2⟩), if_pos z] at fin
      exact fin
    · have fin := hK h C (fun _ _ => rfl)
      unfold fTree at fin
      rw [if_pos (fun z => c2 z.2)] at fin
      exact fin
theorem lMin_R {Kd R : Int → Int} (hR : zRu R) : 0 ≤ lMin Kd R ∧ lMin Kd R ≤ 1000000 := lM_R hR _ _ _
theorem lCs_R {Kd R : Int → Int} (hR : zRu R) (c : Int) : -1000000 ≤ lCs Kd R c ∧ lCs Kd R c ≤ 1000000 := by
  have h1 := lMin_R (Kd := Kd) hR
  have h2 := lMin_R (Kd := lUp Kd c) hR
  unfold lCs
  omega
theorem lDr_R {Kd R : Int → Int} (hR : zRu R) : ∀ n : Nat, ((lDr Kd R n).1 = -4 ∧ (lDr Kd R n).2 = 0) ∨ (0 ≤ (lDr Kd R n).1 ∧ (lDr Kd R n).1 < (n : Int) ∧ 0 < (lDr Kd R n).2 ∧ (lDr Kd R n).2 ≤ 1000000) := by
  intro n
  induction n with
  | zero => exact Or.inl ⟨rfl, rfl⟩
  | succ n ih =>
    have hc := lCs_R (Kd := Kd) hR (n : Int)
    have e : lDr Kd R (n + 1) = if Kd (n : Int) = 2 ∧ (lDr Kd R n).2 < lCs Kd R (n : Int) then ((n : Int), lCs Kd R (n : Int)) else lDr Kd R n := rfl
    rw [e]
    by_cases q : Kd (n : Int) = 2 ∧ (lDr Kd R n).2 < lCs Kd R (n : Int)
    · rw [if_pos q]
      exact Or.inr ⟨by show (0 : Int) ≤ (n : Int); omega, by show (n : Int) < _; omega, by show 0 < lCs Kd R (n : Int); omega, hc.2⟩
    · rw [if_neg q]
      omega
theorem lDr_y {Kd R : Int → Int} {n : Nat} (q : Kd (n : Int) = 2 ∧ (lDr Kd R n).2 < lCs Kd R (n : Int)) : lDr Kd R (n + 1) = ((n : Int), lCs Kd R (n : Int)) := if_pos q
theorem lDr_n {Kd R : Int → Int} {n : Nat} (q : ¬ (Kd (n : Int) = 2 ∧ (lDr Kd R n).2 < lCs Kd R (n : Int))) : lDr Kd R (n + 1) = lDr Kd R n := if_neg q
theorem sX4_seekDearest {a h : zMm} {K : zMm → Prop} (W : WF a) (C : CR a h) (S : cSo a h) (hK : ∀ h', CR a h' → zHi81 h h' → h' 31 18 = (lDr (a 0) (a 4) 36).1 → h' 31 19 = (lDr (a 0) (a 4) 36).2 → K h') : zCv mX4_seekDearest [.ref 31, .ref 10] zS0 h K := by
  have hR := W.2.1
  have de := C.2.2.2.2.2.2.2.2
  have r14 : zR (h 31 14) := by
    rcases de with e | e
    · rw [e]; decide
    · rw [e.1]; decide
  have lp : ∀ (n c : Nat) (g : zMm), c + n = 36 → CR a g → zHi81 h g → cSo a g → g 31 14 = 0 → g 31 18 = (lDr (a 0) (a 4) c).1 → g 31 19 = (lDr (a 0) (a 4) c).2 → RR mX4_seekDearest 0 0 21 [some (.ref 31), some (.ref 10), some (.int (zI (c : Int))), none] [] zS0 g (zQv zS0 K) := by
    intro n
    induction n with
    | zero =>
      intro c g hc Cg Fg Sg e14 e18 e19
      obtain rfl : c = 36 := by omega
      refine bX4_seekDearest_21 ⟨by decide, fun _ => ?_, fun z => absurd (show (36 : Int) ≤ ((36 : Nat) : Int) by decide) z⟩
      have k18 : zU g 31 14 1 31 18 = (lDr (a 0) (a 4) 36).1 := by rw [zU_ne (by omega)]; exact e18
      have k19 : zU g 31 14 1 31 19 = (lDr (a 0) (a 4) 36).2 := by rw [zU_ne (by omega)]; exact e19
      have S' : cSo a (zU g 31 14 1) := by
        unfold cSo cKp at Sg ⊢
        rw [zU_ne (by omega), zU_ne (by omega), zU_ne (by omega), zU_ne (by omega), zU_off 46 (by decide)]
        exact Sg
      refine hK _ (Cg.ld (fun o ho => zU_off o (by omega)) (cL_of (fun y y0 y1 => ?_) S' (Or.inr ⟨zU_eq _ _ _ _, k18, k19⟩))) (fun o ho => (zU_off o (by omega)).trans (Fg o ho)) k18 k19
      rw [zU_off 45 (by decide)]; exact Cg.2.2.2.2.2.2.1 y y0 y1
    | succ n ih =>
      intro c g hc Cg Fg Sg e14 e18 e19
      have c0 : (0 : Int) ≤ c ∧ (c : Int) < 36 := ⟨by omega, by omega⟩
      have cr := lCs_R (Kd := a 0) hR (c : Int)
      have dr := lDr_R (Kd := a 0) hR c
      refine bX4_seekDearest_21 ⟨⟨by omega, by omega⟩, fun z => absurd z (by omega), fun _ => sX3_isOpen' g0_10 Cg.1.1.1 c0 ?_⟩
      simp only [decide_eq_true_eq, decide_eq_false_iff_not]
      rw [show (c : Int) + 1 = ((c + 1 : Nat) : Int) by omega]
      refine ⟨fun q => ?_, fun q => ?_⟩
      · refine ih (c + 1) g (by omega) Cg Fg Sg e14 ?_ ?_
        · rw [lDr_n (fun z => q z.1)]; exact e18
        · rw [lDr_n (fun z => q z.1)]; exact e19
      · have q2 : a 0 (c : Int) = 2 := Classical.byContradiction (fun z => q z)
        refine sX4_costOf W Cg Sg c0 q2 (fun h' C' F' S' E => ⟨⟨by omega, by omega⟩, ?_⟩)
        rw [E.2.2, e19]
        refine ⟨⟨by omega, by omega⟩, fun l => ?_, fun l => ?_⟩
        · refine ih (c + 1) h' (by omega) C' (fun o ho => (F' o ho).trans (Fg o ho)) S' (E.1.trans e14) ?_ ?_
          · rw [lDr_n (fun z => by omega), E.2.1]; exact e18
          · rw [lDr_n (fun z => by omega), E.2.2]; exact e19
        · have S2 : cSo a (zU (zU h' 31 18 (c : Int)) 31 19 (lCs (a 0) (a 4) (c : Int))) := by
            unfold cSo cKp at S' ⊢
            rw [zU_ne (by omega), zU_ne (by omega), zU_ne (by omega), zU_ne (by omega), zU_ne (by omega), zU_ne (by omega), zU_ne (by omega), zU_ne (by omega), zU_off 46 (by decide), zU_off 46 (by decide)]
            exact S'
          have k14 : zU (zU h' 31 18 (c : Int)) 31 19 (lCs (a 0) (a 4) (c : Int)) 31 14 = 0 := by rw [zU_ne (by omega), zU_ne (by omega)]; exact E.1.trans e14
          refine ih (c + 1) _ (by omega) (C'.ld (fun o ho => (zU_off o (by omega)).trans (zU_off o (by omega))) (cL_of (fun y y0 y1 => ?_) S2 (Or.inl k14))) (fun o ho => ?_) S2 k14 ?_ ?_
          · rw [zU_off 45 (by decide), zU_off 45 (by decide)]; exact C'.2.2.2.2.2.2.1 y y0 y1
          · rw [zU_off o (by omega), zU_off o (by omega)]; exact (F' o ho).trans (Fg o ho)
          · rw [lDr_y ⟨q2, by omega⟩, zU_ne (by omega), zU_eq]
          · rw [lDr_y ⟨q2, by omega⟩, zU_eq]
  refine wX4_seekDearest ⟨r14, fun c => ?_, fun c => ?_⟩
  · have S2 : cSo a (zU (zU h 31 18 (-4)) 31 19 0) := by
      unfold cSo cKp at S ⊢
      rw [zU_ne (by omega), zU_ne (by omega), zU_ne (by omega), zU_ne (by omega), zU_ne (by omega), zU_ne (by omega), zU_ne (by omega), zU_ne (by omega), zU_off 46 (by decide), zU_off 46 (by decide)]
      exact S
    have k14 : zU (zU h 31 18 (-4)) 31 19 0 31 14 = 0 := by rw [zU_ne (by omega), zU_ne (by omega)]; exact c
    refine lp 36 0 _ rfl (C.ld (fun o ho => (zU_off o (by omega)).trans (zU_off o (by omega))) (cL_of (fun y y0 y1 => ?_) S2 (Or.inl k14))) (fun o ho => (zU_off o (by omega)).trans (zU_off o (by omega))) S2 k14 ?_ ?_
    · rw [zU_off 45 (by decide), zU_off 45 (by decide)]; exact C.2.2.2.2.2.2.1 y y0 y1
    · rw [zU_ne (by omega), zU_eq]; rfl
    · rw [zU_eq]; rfl
  · rcases de with e | ⟨e1, e2, e3⟩
    · exact absurd e c
    · exact hK h C (fun _ _ => rfl) e2 e3
def fDearest (a : zMm) (w : Int) : Int := if ¬ (0 ≤ w ∧ w ≤ 1) then -1 else if ¬ fWhy a = 0 then fWhy a else if (lDr (a 0) (a 4) 36).2 ≤ 0 then -4 else if w = 0 then (lDr (a 0) (a 4) 36).1 else (lDr (a 0) (a 4) 36).2
theorem cDearest {a h : zMm} {v1 : Int} {K : Int → zMm → Prop} (W : WF a) (C : CR a h) (r1 : zR v1) (hK : ∀ h', CR a h' → zHi81 h h' → K (fDearest a v1) h') : zCi mX11_dearest [.ref 0, .int (zI v1)] zS0 h K := by
  have hw := fWhy_R a
  have rw0 : zR (fWhy a) := by rcases hw with e | e | e <;> rw [e] <;> decide
  have dr := lDr_R (Kd := a 0) W.2.1 36
  refine wX11_dearest (sX11_isWithin r1 (by decide) (by decide) ?_)
  simp only [decide_eq_true_eq, decide_eq_false_iff_not]
  refine ⟨fun c => sX11_seekLeast W C (fun h2 C2 F2 S2 => ⟨rw0, fun z => ?_, fun z => ?_⟩), fun c => ?_⟩
  · obtain ⟨S, hf⟩ := S2 z
    refine sX4_seekDearest W C2 S (fun h3 C3 F3 e18 e19 => ?_)
    have fin := hK h3 C3 (fun o ho => (F3 o ho).trans (F2 o ho))
    unfold fDearest at fin
    rw [if_neg (fun y => y c), if_neg (fun y => y z)] at fin
    rw [e18, e19]
    refine ⟨⟨by omega, by omega⟩, fun q => ⟨r1, ?_⟩, fun q => ?_⟩
    · rw [if_neg (by omega)] at fin; exact fin
    · rw [if_pos (by omega)] at fin; exact fin
  · have fin := hK h2 C2 F2
    unfold fDearest at fin
    rw [if_neg (fun y => y c), if_pos z] at fin
    exact fin
  · have fin := hK h C (fun _ _ => rfl)
    unfold fDearest at fin
    rw [if_pos c] at fin
    exact fin
