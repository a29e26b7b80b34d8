/-! back -/
def zBk (a : zMm) (b : Nat) : zMm := fun o i => if o = 0 then a b i else if o = 1 then a (b + 1) i else if o = 3 then a (b + 2) i else if o = 5 then a (b + 3) i else if o = 6 then a (b + 4) i else if o = 7 ∧ i = 0 then a (b + 5) 0 else a o i
theorem zBk_at (a : zMm) (b : Nat) : zBk a b 0 = a b ∧ zBk a b 1 = a (b + 1) ∧ zBk a b 3 = a (b + 2) ∧ zBk a b 5 = a (b + 3) ∧ zBk a b 6 = a (b + 4) ∧ zBk a b 7 0 = a (b + 5) 0 ∧ (∀ i, i ≠ 0 → zBk a b 7 i = a 7 i) ∧ ∀ o : Nat, o ≠ 0 → o ≠ 1 → o ≠ 3 → o ≠ 5 → o ≠ 6 → o ≠ 7 → zBk a b o = a o := by
  refine ⟨?_, ?_, ?_, ?_, ?_, ?_, fun i ci => ?_, fun o c0 c1 c3 c5 c6 c7 => ?_⟩
  · funext i; unfold zBk; rw [if_pos rfl]
  · funext i; unfold zBk; rw [if_neg (by omega), if_pos rfl]
  · funext i; unfold zBk; rw [if_neg (by omega), if_neg (by omega), if_pos rfl]
  · funext i; unfold zBk; rw [if_neg (by omega), if_neg (by omega), if_neg (by omega), if_pos rfl]
  · funext i; unfold zBk; rw [if_neg (by omega), if_neg (by omega), if_neg (by omega), if_neg (by omega), if_pos rfl]
  · unfold zBk; rw [if_neg (by omega), if_neg (by omega), if_neg (by omega), if_neg (by omega), if_neg (by omega), if_pos ⟨rfl, rfl⟩]
  · unfold zBk; rw [if_neg (by omega), if_neg (by omega), if_neg (by omega), if_neg (by omega), if_neg (by omega), if_neg (fun z => ci z.2)]
  · funext i; unfold zBk; rw [if_neg c0, if_neg c1, if_neg c3, if_neg c5, if_neg c6, if_neg (fun z => c7 z.1)]
def aBack (a : zMm) (k : Int) : zMm := if k = 0 ∧ a 7 4 = 1 ∧ ¬ a 10 (a 4 0) = 2 then zBk a 10 else if k = 1 ∧ a 7 5 = 1 ∧ ¬ a 20 (a 4 0) = 2 then zBk a 20 else a
def fBack (a : zMm) (k : Int) : Int := if k = 0 then (if a 7 4 = 1 ∧ ¬ a 10 (a 4 0) = 2 then a 15 0 else -2) else if k = 1 then (if a 7 5 = 1 ∧ ¬ a 20 (a 4 0) = 2 then a 25 0 else -2) else -1
theorem zBk_W {a : zMm} {b : Nat} (W : WF a) (I : zWi a b) (hs : ¬ a b (a 4 0) = 2) : WF (zBk a b) := by
  obtain ⟨e0, e1, e3, e5, e6, e70, e7, e9⟩ := zBk_at a b
  obtain ⟨w1, w2, w3, w4, w5, w6, w7, w8⟩ := W
  obtain ⟨j1, j2, j3⟩ := I
  have r : ∀ o : Nat, 8 ≤ o → zBk a b o = a o := fun o ho => e9 o (by omega) (by omega) (by omega) (by omega) (by omega) (by omega)
  refine ⟨fun i i0 i1 => ?_, ?_, ?_, ?_, ?_, ?_, ?_, fun k hk => ?_⟩
  · rw [e0, e1, e3, e9 2 (by decide) (by decide) (by decide) (by decide) (by decide) (by decide)]
    obtain ⟨k1, k2, k3, k4⟩ := j1 i i0 i1
    exact ⟨k1, k2, (w1 i i0 i1).2.2.1, k3, k4⟩
  · rw [e9 4 (by decide) (by decide) (by decide) (by decide) (by decide) (by decide)]
    exact w2
  · rw [e9 4 (by decide) (by decide) (by decide) (by decide) (by decide) (by decide), e0]
    exact hs
  · unfold zMW
    rw [e70, e5, e6]
    exact ⟨j2, j3⟩
  · rw [e7 1 (by decide), r 8 (by decide)]
    exact w5
  · rw [e7 2 (by decide), e7 3 (by decide)]
    exact w6
  · rw [e7 4 (by decide), e7 5 (by decide)]
    exact ⟨w7.1, w7.2.1, fun c => zWi_to (w7.2.2.1 c) (fun o _ _ => r o (by omega)), fun c => zWi_to (w7.2.2.2 c) (fun o _ _ => r o (by omega))⟩
  · rw [r 30 (by decide), r 31 (by decide), r (32 + k) (by omega)]
    exact w8 k hk
theorem backc {a h : zMm} {b g m : Nat} (C : CR a h) (I : zWi a b) (H : cI1 a h b g m) (hb : (b = 10 ∧ g = 52 ∧ m = 65) ∨ (b = 20 ∧ g = 58 ∧ m = 68)) (n : Int) (hn : n = h m 2) : CR (zBk a b) (zU (zU (zU (zCp (zCp (zCp (zCp (zCp h (g + 1) 11 36) (g + 2) 12 36) (g + 4) 14 36) (m + 1) 17 24) (m + 2) 18 24) 16 2 n) 31 13 0) 31 14 0) := by
  obtain ⟨e0, e1, e3, e5, e6, e70, e7, e9⟩ := zBk_at a b
  obtain ⟨h1, h2, h3, h4, h5, h6, h7⟩ := C
  obtain ⟨k1, k2, k3⟩ := H
  obtain ⟨j1, j2, j3⟩ := I
  obtain ⟨⟨q1, q2⟩, q3, q4⟩ := h1
  have r : ∀ o : Nat, 8 ≤ o → zBk a b o = a o := fun o ho => e9 o (by omega) (by omega) (by omega) (by omega) (by omega) (by omega)
  have ez : ∀ o : Nat, o ≠ 11 → o ≠ 12 → o ≠ 14 → o ≠ 16 → o ≠ 17 → o ≠ 18 → o ≠ 31 → (zU (zU (zU (zCp (zCp (zCp (zCp (zCp h (g + 1) 11 36) (g + 2) 12 36) (g + 4) 14 36) (m + 1) 17 24) (m + 2) 18 24) 16 2 n) 31 13 0) 31 14 0) o = h o := by
    intro o c1 c2 c3 c4 c5 c6 c7
    rw [zU_off o c7, zU_off o c7, zU_off o c4, zCp_off o c6, zCp_off o c5, zCp_off o c3, zCp_off o c2, zCp_off o c1]
  refine ⟨⟨⟨fun i i0 i1 => ?_, fun x x0 x1 => ?_⟩, fun i i0 i1 => ?_, fun i i0 i1 => ?_⟩, ⟨?_, fun i i0 i1 => ?_⟩, h3.to ⟨e7 1 (by decide), r 8 (by decide)⟩ ⟨congrFun (ez 1 (by decide) (by decide) (by decide) (by decide) (by decide) (by decide) (by decide)) 1, ez 2 (by decide) (by decide) (by decide) (by decide) (by decide) (by decide) (by decide)⟩, h4.to ⟨e7 4 (by decide), e7 5 (by decide), fun o _ _ => r o (by omega)⟩ (fun o _ _ => ez o (by omega) (by omega) (by omega) (by omega) (by omega) (by omega) (by omega)), h5.to (fun o _ _ => r o (by omega)) (fun o _ _ => ez o (by omega) (by omega) (by omega) (by omega) (by omega) (by omega) (by omega)), h6.to ⟨e7 2 (by decide), e7 3 (by decide)⟩ ⟨congrFun (ez 3 (by decide) (by decide) (by decide) (by decide) (by decide) (by decide) (by decide)) 1, congrFun (ez 0 (by decide) (by decide) (by decide) (by decide) (by decide) (by decide) (by decide)) 15⟩, h7.forget ?_ ?_ ?_⟩
  · rw [e0]
    obtain ⟨b1, b2, b3, b4⟩ := j1 i i0 i1
    refine ⟨?_, b1.1, b1.2⟩
    rw [← (k1 i i0 i1).1]
    rw [zU_off 11 (by decide), zU_off 11 (by decide), zU_off 11 (by decide), zCp_off 11 (by decide), zCp_off 11 (by decide), zCp_off 11 (by decide), zCp_off 11 (by decide)]
    unfold zCp
    rw [if_pos ⟨rfl, i0, i1⟩]
  · rw [ez 15 (by decide) (by decide) (by decide) (by decide) (by decide) (by decide) (by decide), e9 4 (by decide) (by decide) (by decide) (by decide) (by decide) (by decide)]
    exact q2 x x0 x1
  · rw [e1, e3, ← (k1 i i0 i1).2.1, ← (k1 i i0 i1).2.2]
    constructor
    · rw [zU_off 12 (by decide), zU_off 12 (by decide), zU_off 12 (by decide), zCp_off 12 (by decide), zCp_off 12 (by decide), zCp_off 12 (by decide)]
      unfold zCp
      rw [if_pos ⟨rfl, i0, i1⟩, if_neg (by omega)]
    · rw [zU_off 14 (by decide), zU_off 14 (by decide), zU_off 14 (by decide), zCp_off 14 (by decide), zCp_off 14 (by decide)]
      unfold zCp
      rw [if_pos ⟨rfl, i0, i1⟩, if_neg (by omega), if_neg (by omega)]
  · rw [ez 13 (by decide) (by decide) (by decide) (by decide) (by decide) (by decide) (by decide), e9 2 (by decide) (by decide) (by decide) (by decide) (by decide) (by decide)]
    exact q4 i i0 i1
  · rw [e70, zU_off 16 (by decide), zU_off 16 (by decide), zU_eq, hn]
    exact k2
  · rw [e70] at i1
    have i2 : i < 24 := by omega
    rw [e5, e6, ← (k3 i i0 i1).1, ← (k3 i i0 i1).2]
    constructor
    · rw [zU_off 17 (by decide), zU_off 17 (by decide), zU_off 17 (by decide), zCp_off 17 (by decide)]
      unfold zCp
      rw [if_pos ⟨rfl, i0, i2⟩, if_neg (by omega), if_neg (by omega), if_neg (by omega)]
    · rw [zU_off 18 (by decide), zU_off 18 (by decide), zU_off 18 (by decide)]
      unfold zCp
      rw [if_pos ⟨rfl, i0, i2⟩, if_neg (by omega), if_neg (by omega), if_neg (by omega), if_neg (by omega)]
  · exact ez 45 (by decide) (by decide) (by decide) (by decide) (by decide) (by decide) (by decide)
  · simp [zU_at]
  · simp [zU_at]
/-- n ints come back from p, but the suns -/
def zBc (h : zMm) (p n : Int) : zMm := fun o i => if o = 92 ∧ 0 ≤ i ∧ i < n ∧ ¬ (108 ≤ i ∧ i ≤ 143) then h 92 (p + i) else h o i
theorem zBc_0 (h : zMm) (p : Int) : zBc h p 0 = h := by
  funext o i
  unfold zBc
  rw [if_neg (by omega)]
theorem back_in {h : zMm} {v1 : Int} {K : Int → zMm → Prop} (hv : 0 ≤ v1 ∧ v1 < 2) (hK : K ((zBc h (200 * (v1 + 1)) 200) 92 192) (zBc h (200 * (v1 + 1)) 200)) : ∀ (n : Nat) (i : Int), 0 ≤ i → i + n = 200 → RR mX12_back 0 0 53 [some (.ref 81), some (.int (zI v1)), some (.int (zI i))] [] zS0 (zBc h (200 * (v1 + 1)) i) (zQi zS0 K) := by
  intro n
  induction n with
  | zero =>
    intro i i0 i1
    refine bX12_back_53 ⟨⟨by omega, by omega⟩, fun _ => ?_, fun d => absurd (by omega) d⟩
    rw [show i = 200 by omega]
    exact hK
  | succ n ih =>
    intro i i0 i1
    refine bX12_back_53 ⟨⟨by omega, by omega⟩, fun d => absurd d (by omega), fun _ => sX12_in ⟨by omega, by omega⟩ (by decide) (by decide) ?_⟩
    simp only [decide_eq_true_eq, decide_eq_false_iff_not]
    have st : ∀ x, (x = if 108 ≤ i ∧ i ≤ 143 then h 92 i else h 92 (200 * (v1 + 1) + i)) → zU (zBc h (200 * (v1 + 1)) i) 92 i x = zBc h (200 * (v1 + 1)) (i + 1) := by
      intro x ex
      funext o j
      simp only [zU_at]
      unfold zBc
      by_cases c1 : o = 92 ∧ j = i
      · rw [if_pos c1, c1.1, c1.2, ex]
        by_cases c2 : 108 ≤ i ∧ i ≤ 143
        · rw [if_pos c2, if_neg (fun z => z.2.2.2 c2)]
        · rw [if_neg c2, if_pos ⟨rfl, i0, by omega, c2⟩]
      · rw [if_neg c1]
        by_cases c2 : o = 92 ∧ 0 ≤ j ∧ j < i ∧ ¬ (108 ≤ j ∧ j ≤ 143)
        · rw [if_pos c2, if_pos ⟨c2.1, c2.2.1, by omega, c2.2.2.2⟩]
        · rw [if_neg c2, if_neg (fun z => c2 ⟨z.1, z.2.1, by omega, z.2.2.2⟩)]
    refine ⟨fun c => ⟨⟨by omega, by omega⟩, ⟨by omega, by omega⟩, ?_⟩, fun c => ⟨⟨by omega, by omega⟩, ?_⟩⟩
    · rw [st _ ?_]
      · exact ih (i + 1) (by omega) (by omega)
      · rw [if_neg c]
        unfold zBc
        rw [if_neg (by omega)]
    · rw [st _ ?_]
      · exact ih (i + 1) (by omega) (by omega)
      · rw [if_pos c]
        unfold zBc
        rw [if_neg (by omega)]
theorem backm {a h : zMm} {b : Nat} {p : Int} (M : MR a h) (A : mA a h) (I : zWi a b) (H : mI1 a h b p) (hp : p = 200 ∨ p = 400) (hb : 8 ≤ b) : MR (zBk a b) (zBc h p 200) := by
  obtain ⟨e0, e1, e3, e5, e6, e70, e7, e9⟩ := zBk_at a b
  obtain ⟨k1, k2, k3⟩ := H
  obtain ⟨j1, j2, j3⟩ := I
  obtain ⟨⟨q1, q2, q3, q4, q5⟩, q6⟩ := id A
  have ez : ∀ o : Nat, o ≠ 92 → (zBc h p 200) o = h o := by
    intro o ho
    funext i
    unfold zBc
    rw [if_neg (fun z => ho z.1)]
  have ei : ∀ i : Int, 200 ≤ i ∨ (108 ≤ i ∧ i ≤ 143) → (zBc h p 200) 92 i = h 92 i := by
    intro i hi
    unfold zBc
    rw [if_neg (by omega)]
  have ej : ∀ i : Int, 0 ≤ i → i < 200 → ¬ (108 ≤ i ∧ i ≤ 143) → (zBc h p 200) 92 i = h 92 (p + i) := by
    intro i c1 c2 c3
    unfold zBc
    rw [if_pos ⟨rfl, c1, c2, c3⟩]
  refine M.state (fun o ho => e9 o (by omega) (by omega) (by omega) (by omega) (by omega) (by omega)) e7 (fun o c1 _ => ez o c1) (fun i ci => ei i (Or.inl ci)) (Or.inl ⟨?_, ⟨fun i i0 i1 => ?_, fun x x0 x1 => ?_, ?_, fun i i0 i1 => ?_, fun i i0 i1 => ?_⟩, fun i i0 i1 => ?_⟩)
  · rw [ez 81 (by decide)]
    exact mA.on M A
  · rw [ej i i0 (by omega) (by omega), e0, (k1 i i0 i1).1]
    exact ⟨rfl, (j1 i i0 i1).1⟩
  · rw [ez 88 (by decide), e9 4 (by decide) (by decide) (by decide) (by decide) (by decide) (by decide)]
    exact q2 x x0 x1
  · rw [ej 192 (by decide) (by decide) (by decide), e70]
    exact k2
  · rw [e70] at i1
    rw [ej _ (by omega) (by omega) (by omega), ej _ (by omega) (by omega) (by omega), e5, e6, show p + (144 + 2 * i) = p + 144 + 2 * i by omega, show p + (144 + 2 * i + 1) = p + 144 + 2 * i + 1 by omega]
    exact k3 i i0 i1
  · rw [ej _ (by omega) (by omega) (by omega), ej _ (by omega) (by omega) (by omega), e1, e3, show p + (36 + i) = p + 36 + i by omega, show p + (72 + i) = p + 72 + i by omega]
    exact (k1 i i0 i1).2
  · rw [ei _ (by omega), e9 2 (by decide) (by decide) (by decide) (by decide) (by decide) (by decide)]
    exact q6 i i0 i1
theorem wBack {a : zMm} {k : Int} (W : WF a) : WF (aBack a k) := by
  unfold aBack
  split
  · rename_i c
    exact zBk_W W (W.2.2.2.2.2.2.1.2.2.1 c.2.1) c.2.2
  · split
    · rename_i c
      exact zBk_W W (W.2.2.2.2.2.2.1.2.2.2 c.2.1) c.2.2
    · exact W
theorem cBack_0 {a h : zMm} {K : Int → zMm → Prop} (W : WF a) (C : CR a h) (hK : ∀ h', CR (aBack a 0) h' → zHi81 h h' → K (fBack a 0) h') : zCi mX11_back [.ref 0, .int (zI 0)] zS0 h K := by
  unfold aBack fBack at hK
  have jj := W.im.1
  refine wX11_back (sX11_isWithin (by decide) (by decide) (by decide) ?_)
  simp only [decide_eq_true_eq, decide_eq_false_iff_not]
  refine ⟨fun _ => ⟨by decide, ?_⟩, fun c => absurd (by decide) c⟩
  rw [show h 71 0 = a 7 4 from C.2.2.2.1.1]
  refine ⟨⟨by omega, by omega⟩, fun j => ?_, fun j => sX3_told g0_10 (by omega) ?_⟩
  · rw [if_neg (fun z => by omega), if_neg (fun z => by omega), if_pos rfl, if_neg (fun z => by omega)] at hK
    exact hK h C (fun _ _ => rfl)
  have j : a 7 4 = 1 := by omega
  have I : zWi a 10 := W.2.2.2.2.2.2.1.2.2.1 j
  have H : cI1 a h 10 52 65 := C.2.2.2.1.2.2.1 j
  have W0 := W.2.1.1
  rw [show h (10 + 5) 0 = a 4 0 from C.1.1.2 0 (by decide) (by decide)]
  refine sX3_isOpen' (Kd := a 10) g0_52 (fun i i0 i1 => ⟨(H.1 i i0 i1).1, (I.1 i i0 i1).1⟩) ⟨by omega, by omega⟩ ?_
  simp only [decide_eq_true_eq, decide_eq_false_iff_not]
  refine ⟨fun d => wX3_takeCells g0_10 g0_52 (wX5_takeAll m0_16 m0_65 (wX4_forget ?_)), fun d => ?_⟩
  · rw [if_pos ⟨rfl, j, d⟩, if_pos rfl, if_pos ⟨j, d⟩] at hK
    have go : ∀ (x : Int) (h2 : zMm), x = a 15 0 → K (a 15 0) h2 → K x h2 := fun x h2 e k => by rw [e]; exact k
    have key := fun n hn => hK _ (backc C I H (Or.inl ⟨rfl, rfl, rfl⟩) n hn) (fun o ho => by rw [zU_off o (by omega), zU_off o (by omega), zU_off o (by omega), zCp_off o (by omega), zCp_off o (by omega), zCp_off o (by omega), zCp_off o (by omega), zCp_off o (by omega)])
    refine go _ _ ?_ (key _ (by simp [zCp]))
    rw [zU_off 16 (by decide), zU_off 16 (by decide), zU_eq]
    refine Eq.trans ?_ H.2.1
    simp [zCp]
  · rw [if_neg (fun z => d z.2.2), if_neg (fun z => absurd z.1 (by decide)), if_pos rfl, if_neg (fun z => d z.2)] at hK
    exact hK h C (fun _ _ => rfl)
theorem mBack_0 {a h : zMm} {K : Int → zMm → Prop} (W : WF a) (M : MR a h) (hK : ∀ h', MR (aBack a 0) h' → zLo81 h h' → K (fBack a 0) h') : zCi mX12_back [.ref 81, .int (zI 0)] zS0 h K := by
  unfold aBack fBack at hK
  have jj := W.im.1
  refine wX12_back ⟨by decide, sX12_in (by decide) (by decide) (by decide) ?_⟩
  simp only [decide_eq_true_eq, decide_eq_false_iff_not]
  refine ⟨fun _ => ⟨by decide, ?_⟩, fun c => absurd (by decide) c⟩
  rw [show h 104 0 = a 7 4 from M.2.2.1.1]
  refine ⟨⟨by omega, by omega⟩, fun j => ?_, fun j => ?_⟩
  · rw [if_neg (fun z => by omega), if_neg (fun z => by omega), if_pos rfl, if_neg (fun z => by omega)] at hK
    exact hK h M (fun _ _ => rfl)
  have j : a 7 4 = 1 := by omega
  have I : zWi a 10 := W.2.2.2.2.2.2.1.2.2.1 j
  have H : mI1 a h 10 200 := M.2.2.1.2.2.1 j
  have W0 := W.2.1.1
  have Ib := (I.1 (a 4 0) W0.1 (by omega)).1
  have eh : h 92 (200 * (0 + 1) + a 4 0) = a 10 (a 4 0) := (H.1 (a 4 0) W0.1 (by omega)).1
  rw [M.rule 0 (by decide) (by decide), eh]
  refine ⟨⟨by omega, by omega⟩, ⟨by omega, by omega⟩, fun d => sX12_awake M ?_, fun d => ?_⟩
  · intro h1 M1 A1 L1
    rw [if_pos ⟨rfl, j, d⟩, if_pos rfl, if_pos ⟨j, d⟩] at hK
    have H1 : mI1 a h1 10 200 := M1.2.2.1.2.2.1 j
    have key := hK _ (backm M1 A1 I H1 (Or.inl rfl) (by decide)) (L1.trans (fun o ho => by funext i; unfold zBc; rw [if_neg (fun z => absurd z.1 (by omega))]))
    have := back_in (h := h1) (v1 := 0) (K := K) (by decide) ?_ 200 0 (by decide) (by decide)
    · rw [zBc_0] at this
      exact this
    · refine Eq.mp (congrArg (fun x => K x _) ?_) key
      have e := H1.2.1
      rw [← e]
      unfold zBc
      rw [if_pos (by decide)]
      rfl
  · rw [if_neg (fun z => z.2.2 d), if_neg (fun z => absurd z.1 (by decide)), if_pos rfl, if_neg (fun z => z.2 d)] at hK
    exact hK h M (fun _ _ => rfl)
theorem cBack_1 {a h : zMm} {K : Int → zMm → Prop} (W : WF a) (C : CR a h) (hK : ∀ h', CR (aBack a 1) h' → zHi81 h h' → K (fBack a 1) h') : zCi mX11_back [.ref 0, .int (zI 1)] zS0 h K := by
  unfold aBack fBack at hK
  have jj := W.im.2
  refine wX11_back (sX11_isWithin (by decide) (by decide) (by decide) ?_)
  simp only [decide_eq_true_eq, decide_eq_false_iff_not]
  refine ⟨fun _ => ⟨by decide, ?_⟩, fun c => absurd (by decide) c⟩
  rw [show h 71 1 = a 7 5 from C.2.2.2.1.2.1]
  refine ⟨⟨by omega, by omega⟩, fun j => ?_, fun j => sX3_told g0_10 (by omega) ?_⟩
  · rw [if_neg (fun z => by omega), if_neg (fun z => by omega), if_neg (by decide), if_pos rfl, if_neg (fun z => by omega)] at hK
    exact hK h C (fun _ _ => rfl)
  have j : a 7 5 = 1 := by omega
  have I : zWi a 20 := W.2.2.2.2.2.2.1.2.2.2 j
  have H : cI1 a h 20 58 68 := C.2.2.2.1.2.2.2 j
  have W0 := W.2.1.1
  rw [show h (10 + 5) 0 = a 4 0 from C.1.1.2 0 (by decide) (by decide)]
  refine sX3_isOpen' (Kd := a 20) g0_58 (fun i i0 i1 => ⟨(H.1 i i0 i1).1, (I.1 i i0 i1).1⟩) ⟨by omega, by omega⟩ ?_
  simp only [decide_eq_true_eq, decide_eq_false_iff_not]
  refine ⟨fun d => wX3_takeCells g0_10 g0_58 (wX5_takeAll m0_16 m0_68 (wX4_forget ?_)), fun d => ?_⟩
  · rw [if_neg (by omega), if_pos ⟨rfl, j, d⟩, if_neg (by decide), if_pos rfl, if_pos ⟨j, d⟩] at hK
    have go : ∀ (x : Int) (h2 : zMm), x = a 25 0 → K (a 25 0) h2 → K x h2 := fun x h2 e k => by rw [e]; exact k
    have key := fun n hn => hK _ (backc C I H (Or.inr ⟨rfl, rfl, rfl⟩) n hn) (fun o ho => by rw [zU_off o (by omega), zU_off o (by omega), zU_off o (by omega), zCp_off o (by omega), zCp_off o (by omega), zCp_off o (by omega), zCp_off o (by omega), zCp_off o (by omega)])
    refine go _ _ ?_ (key _ (by simp [zCp]))
    rw [zU_off 16 (by decide), zU_off 16 (by decide), zU_eq]
    refine Eq.trans ?_ H.2.1
    simp [zCp]
  · rw [if_neg (fun z => absurd z.1 (by decide)), if_neg (fun z => d z.2.2), if_neg (by decide), if_pos rfl, if_neg (fun z => d z.2)] at hK
    exact hK h C (fun _ _ => rfl)
theorem mBack_1 {a h : zMm} {K : Int → zMm → Prop} (W : WF a) (M : MR a h) (hK : ∀ h', MR (aBack a 1) h' → zLo81 h h' → K (fBack a 1) h') : zCi mX12_back [.ref 81, .int (zI 1)] zS0 h K := by
  unfold aBack fBack at hK
  have jj := W.im.2
  refine wX12_back ⟨by decide, sX12_in (by decide) (by decide) (by decide) ?_⟩
  simp only [decide_eq_true_eq, decide_eq_false_iff_not]
  refine ⟨fun _ => ⟨by decide, ?_⟩, fun c => absurd (by decide) c⟩
  rw [show h 104 1 = a 7 5 from M.2.2.1.2.1]
  refine ⟨⟨by omega, by omega⟩, fun j => ?_, fun j => ?_⟩
  · rw [if_neg (fun z => by omega), if_neg (fun z => by omega), if_neg (by decide), if_pos rfl, if_neg (fun z => by omega)] at hK
    exact hK h M (fun _ _ => rfl)
  have j : a 7 5 = 1 := by omega
  have I : zWi a 20 := W.2.2.2.2.2.2.1.2.2.2 j
  have H : mI1 a h 20 400 := M.2.2.1.2.2.2 j
  have W0 := W.2.1.1
  have Ib := (I.1 (a 4 0) W0.1 (by omega)).1
  have eh : h 92 (200 * (1 + 1) + a 4 0) = a 20 (a 4 0) := (H.1 (a 4 0) W0.1 (by omega)).1
  rw [M.rule 0 (by decide) (by decide), eh]
  refine ⟨⟨by omega, by omega⟩, ⟨by omega, by omega⟩, fun d => sX12_awake M ?_, fun d => ?_⟩
  · intro h1 M1 A1 L1
    rw [if_neg (by omega), if_pos ⟨rfl, j, d⟩, if_neg (by decide), if_pos rfl, if_pos ⟨j, d⟩] at hK
    have H1 : mI1 a h1 20 400 := M1.2.2.1.2.2.2 j
    have key := hK _ (backm M1 A1 I H1 (Or.inr rfl) (by decide)) (L1.trans (fun o ho => by funext i; unfold zBc; rw [if_neg (fun z => absurd z.1 (by omega))]))
    have := back_in (h := h1) (v1 := 1) (K := K) (by decide) ?_ 200 0 (by decide) (by decide)
    · rw [zBc_0] at this
      exact this
    · refine Eq.mp (congrArg (fun x => K x _) ?_) key
      have e := H1.2.1
      rw [← e]
      unfold zBc
      rw [if_pos (by decide)]
      rfl
  · rw [if_neg (fun z => absurd z.1 (by decide)), if_neg (fun z => z.2.2 d), if_neg (by decide), if_pos rfl, if_neg (fun z => z.2 d)] at hK
    exact hK h M (fun _ _ => rfl)
theorem cBack {a h : zMm} {v1 : Int} {K : Int → zMm → Prop} (W : WF a) (C : CR a h) (r1 : zR v1) (hK : ∀ h', CR (aBack a v1) h' → zHi81 h h' → K (fBack a v1) h') : zCi mX11_back [.ref 0, .int (zI v1)] zS0 h K := by
  by_cases c0 : v1 = 0
  · subst c0
    exact cBack_0 W C hK
  by_cases c1 : v1 = 1
  · subst c1
    exact cBack_1 W C hK
  unfold aBack fBack at hK
  rw [if_neg (fun z => c0 z.1), if_neg (fun z => c1 z.1), if_neg c0, if_neg c1] at hK
  refine wX11_back (sX11_isWithin r1 (by decide) (by decide) ?_)
  simp only [decide_eq_true_eq, decide_eq_false_iff_not]
  exact ⟨fun c => absurd c (by omega), fun _ => hK h C (fun _ _ => rfl)⟩
theorem mBack {a h : zMm} {v1 : Int} {K : Int → zMm → Prop} (W : WF a) (M : MR a h) (r1 : zR v1) (hK : ∀ h', MR (aBack a v1) h' → zLo81 h h' → K (fBack a v1) h') : zCi mX12_back [.ref 81, .int (zI v1)] zS0 h K := by
  by_cases c0 : v1 = 0
  · subst c0
    exact mBack_0 W M hK
  by_cases c1 : v1 = 1
  · subst c1
    exact mBack_1 W M hK
  unfold aBack fBack at hK
  rw [if_neg (fun z => c0 z.1), if_neg (fun z => c1 z.1), if_neg c0, if_neg c1] at hK
  refine wX12_back ⟨r1, sX12_in r1 (by decide) (by decide) ?_⟩
  simp only [decide_eq_true_eq, decide_eq_false_iff_not]
  exact ⟨fun c => absurd c (by omega), fun _ => hK h M (fun _ _ => rfl)⟩
