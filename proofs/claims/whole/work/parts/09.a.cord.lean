/-! THE CORD, as numbers: 'q 0' size, crossings, longest, first crossing, first too short (0: none); 'q 1' its cells -/
def kCt (q : zMm) (c : Int) (n : Nat) : Int := zN36 (fun j => decide (q 1 j = c)) n
def kFin (m t : Int) (q : zMm) : zMm := if m < q 0 0 - 1 ∧ q 0 4 = 0 then zU (zU q 0 2 (max (q 0 2) (q 0 0 - 1))) 0 4 t else zU q 0 2 (max (q 0 2) (q 0 0 - 1))
def kCr (t : Int) (q : zMm) : zMm := zU (zU q 0 1 (q 0 1 + 1)) 0 3 (if q 0 3 = 0 then t else q 0 3)
def kPu (c : Int) (q : zMm) : zMm := zU (zU q 1 (q 0 0) c) 0 0 (q 0 0 + 1)
def kOne (m t c : Int) (q : zMm) : zMm := if 2 ≤ q 0 0 ∧ q 1 (q 0 0 - 2) = c then kFin m t (zU q 0 0 (q 0 0 - 1)) else kFin m t (kPu c (if 0 < kCt q c (q 0 0).toNat then kCr t q else q))
def kSt (m s : Int) (p : Int → Int) : Nat → zMm
  | 0 => kPu s (fun _ _ => 0)
  | n + 1 => kOne m ((n : Int) + 1) (p ((n : Int) + 1)) (kSt m s p n)
def kOk (t : Int) (q : zMm) : Prop := (1 ≤ q 0 0 ∧ q 0 0 ≤ t + 1) ∧ (0 ≤ q 0 1 ∧ q 0 1 ≤ t) ∧ (0 ≤ q 0 2 ∧ q 0 2 ≤ t) ∧ (0 ≤ q 0 3 ∧ q 0 3 ≤ t) ∧ (0 ≤ q 0 4 ∧ q 0 4 ≤ t) ∧ ∀ j : Int, 0 ≤ j → j < q 0 0 → 0 ≤ q 1 j ∧ q 1 j < 36
theorem kFin_ok {m t : Int} {q : zMm} (ht : 1 ≤ t) (h : kOk t q) : kOk t (kFin m t q) := by
  obtain ⟨h1, h2, h3, h4, h5, h6⟩ := h
  unfold kFin
  split
  · refine ⟨?_, ?_, ?_, ?_, ?_, fun j j0 j1 => ?_⟩
    · simpa [zU] using h1
    · simpa [zU] using h2
    · simp [zU]; omega
    · simpa [zU] using h4
    · simp [zU]; omega
    · have := h6 j j0 (by simpa [zU] using j1)
      simpa [zU] using this
  · refine ⟨?_, ?_, ?_, ?_, ?_, fun j j0 j1 => ?_⟩
    · simpa [zU] using h1
    · simpa [zU] using h2
    · simp [zU]; omega
    · simpa [zU] using h4
    · simpa [zU] using h5
    · have := h6 j j0 (by simpa [zU] using j1)
      simpa [zU] using this
theorem kCr_ok {t : Int} {q : zMm} (h : kOk t q) (ht : 0 ≤ t) : kOk (t + 1) (kCr (t + 1) q) := by
  obtain ⟨h1, h2, h3, h4, h5, h6⟩ := h
  unfold kCr
  refine ⟨?_, ?_, ?_, ?_, ?_, fun j j0 j1 => ?_⟩
  · simp [zU]; omega
  · simp [zU]; omega
  · simp [zU]; omega
  · simp [zU]; split <;> omega
  · simp [zU]; omega
  · have := h6 j j0 (by simpa [zU] using j1)
    simpa [zU] using this
theorem kOk.up {t : Int} {q : zMm} (h : kOk t q) : kOk (t + 1) q := by
  obtain ⟨h1, h2, h3, h4, h5, h6⟩ := h
  exact ⟨by omega, by omega, by omega, by omega, by omega, h6⟩
theorem kPu_at (c : Int) (q : zMm) : kPu c q 0 0 = q 0 0 + 1 ∧ (∀ i, i ≠ 0 → kPu c q 0 i = q 0 i) ∧ ∀ j, kPu c q 1 j = if j = q 0 0 then c else q 1 j := by
  unfold kPu
  refine ⟨zU_eq _ _ _ _, fun i ci => ?_, fun j => ?_⟩
  · rw [zU_ne (by omega), zU_off 0 (by decide)]
  · rw [zU_off 1 (by decide), zU_at]
    simp only [true_and]
theorem kCr_at (t : Int) (q : zMm) : kCr t q 0 0 = q 0 0 ∧ kCr t q 1 = q 1 ∧ kCr t q 0 1 = q 0 1 + 1 ∧ kCr t q 0 2 = q 0 2 ∧ kCr t q 0 3 = (if q 0 3 = 0 then t else q 0 3) ∧ kCr t q 0 4 = q 0 4 := by
  unfold kCr
  refine ⟨?_, ?_, ?_, ?_, ?_, ?_⟩
  · simp [zU]
  · rw [zU_off 1 (by decide), zU_off 1 (by decide)]
  · simp [zU]
  · simp [zU]
  · rw [zU_eq]
  · simp [zU]
theorem kPu_ok {t c : Int} {q : zMm} (h : kOk (t + 1) q) (hs : q 0 0 ≤ t + 1) (hc : 0 ≤ c ∧ c < 36) : kOk (t + 1) (kPu c q) := by
  obtain ⟨h1, h2, h3, h4, h5, h6⟩ := h
  obtain ⟨e1, e2, e3⟩ := kPu_at c q
  refine ⟨by omega, by rw [e2 1 (by decide)]; exact h2, by rw [e2 2 (by decide)]; exact h3, by rw [e2 3 (by decide)]; exact h4, by rw [e2 4 (by decide)]; exact h5, fun j j0 j1 => ?_⟩
  rw [e3]
  split
  · exact hc
  · exact h6 j j0 (by omega)
theorem kOne_ok {m t c : Int} {q : zMm} (h : kOk t q) (ht : 0 ≤ t) (hc : 0 ≤ c ∧ c < 36) : kOk (t + 1) (kOne m (t + 1) c q) := by
  unfold kOne
  split
  · rename_i d
    refine kFin_ok (by omega) ?_
    obtain ⟨h1, h2, h3, h4, h5, h6⟩ := h
    refine ⟨?_, ?_, ?_, ?_, ?_, fun j j0 j1 => ?_⟩
    · simp [zU]; omega
    · simp [zU]; omega
    · simp [zU]; omega
    · simp [zU]; omega
    · simp [zU]; omega
    · have j2 : j < q 0 0 - 1 := by simpa [zU] using j1
      have := h6 j j0 (by omega)
      simpa [zU] using this
  · refine kFin_ok (by omega) (kPu_ok ?_ ?_ hc)
    · split
      · exact kCr_ok h ht
      · exact h.up
    · split
      · rw [(kCr_at _ _).1]
        exact h.1.2
      · exact h.1.2
theorem kSt_ok {m s : Int} {p : Int → Int} (hs : 0 ≤ s ∧ s < 36) : ∀ n : Nat, (∀ j : Int, 0 ≤ j → j ≤ n → 0 ≤ p j ∧ p j < 36) → kOk (n : Int) (kSt m s p n) := by
  intro n
  induction n with
  | zero =>
    intro _
    obtain ⟨e1, e2, e3⟩ := kPu_at s (fun _ _ => 0)
    have e1 : kSt m s p 0 0 0 = 1 := e1
    have e2 : ∀ i : Int, i ≠ 0 → kSt m s p 0 0 i = 0 := e2
    have e3 : ∀ j : Int, kSt m s p 0 1 j = if j = 0 then s else 0 := e3
    refine ⟨by rw [e1]; omega, by rw [e2 1 (by decide)]; omega, by rw [e2 2 (by decide)]; omega, by rw [e2 3 (by decide)]; omega, by rw [e2 4 (by decide)]; omega, fun j j0 j1 => ?_⟩
    rw [e3]
    split
    · exact hs
    · decide
  | succ n ih =>
    intro hp
    have h1 := ih (fun j j0 j1 => hp j j0 (by omega))
    have h2 := hp ((n : Int) + 1) (by omega) (by omega)
    have := kOne_ok (m := m) h1 (by omega) h2
    rw [show ((n + 1 : Nat) : Int) = (n : Int) + 1 by omega]
    exact this
theorem zN36_cg {P Q : Int → Bool} : ∀ n : Nat, (∀ j : Int, 0 ≤ j → j < n → P j = Q j) → zN36 P n = zN36 Q n := by
  intro n
  induction n with
  | zero => intro _; rfl
  | succ n ih =>
    intro h
    unfold zN36
    rw [ih (fun j j0 j1 => h j j0 (by omega)), h (n : Int) (by omega) (by omega)]
/-- the class's cord -/
def kC (t : Int) (q h : zMm) : Prop := h 25 2 = q 0 0 ∧ h 25 3 = t ∧ h 25 4 = q 0 1 ∧ h 25 5 = q 0 2 ∧ h 25 6 = q 0 3 ∧ h 25 7 = q 0 4 ∧ (∀ j : Int, 0 ≤ j → j < q 0 0 → h 26 j = q 1 j) ∧ ∀ c : Int, 0 ≤ c → c < 36 → h 27 c = kCt q c (q 0 0).toNat
def kF (h h' : zMm) : Prop := ∀ o : Nat, o ≠ 25 → o ≠ 26 → o ≠ 27 → h' o = h o
theorem kF.up {h h1 : zMm} {o : Nat} {k x : Int} (f : kF h h1) (ho : o = 25 ∨ o = 26 ∨ o = 27) : kF h (zU h1 o k x) := fun q c1 c2 c3 => (zU_off q (by omega)).trans (f q c1 c2 c3)
theorem kF.trans {h h1 h2 : zMm} (a : kF h h1) (b : kF h1 h2) : kF h h2 := fun o c1 c2 c3 => (b o c1 c2 c3).trans (a o c1 c2 c3)
theorem kFin_at (m t : Int) (q : zMm) : kFin m t q 0 0 = q 0 0 ∧ kFin m t q 1 = q 1 ∧ kFin m t q 0 1 = q 0 1 ∧ kFin m t q 0 2 = max (q 0 2) (q 0 0 - 1) ∧ kFin m t q 0 3 = q 0 3 ∧ kFin m t q 0 4 = (if m < q 0 0 - 1 ∧ q 0 4 = 0 then t else q 0 4) := by
  unfold kFin
  by_cases c : m < q 0 0 - 1 ∧ q 0 4 = 0
  · rw [if_pos c, if_pos c]
    refine ⟨?_, ?_, ?_, ?_, ?_, ?_⟩
    · simp [zU]
    · rw [zU_off 1 (by decide), zU_off 1 (by decide)]
    · simp [zU]
    · simp [zU]
    · simp [zU]
    · rw [zU_eq]
  · rw [if_neg c, if_neg c]
    refine ⟨?_, ?_, ?_, ?_, ?_, ?_⟩
    · simp [zU]
    · rw [zU_off 1 (by decide)]
    · simp [zU]
    · rw [zU_eq]
    · simp [zU]
    · simp [zU]
/-- the end of drawTo -/
theorem kTail {m t : Int} {q h4 : zMm} {K : zMm → Prop} (hC : kC t q h4) (ok : kOk t q) (ht : 1 ≤ t ∧ t ≤ 120) (hm : 1 ≤ m ∧ m ≤ 99) (hK : ∀ h', kC t (kFin m t q) h' → kF h4 h' → K h') : (zR (h4 25 5) ∧ (zR ((h4 25 2) - 1) ∧ (zR m ∧ (zR (h4 25 7) ∧ ((((h4 25 2) - 1) ≤ m → K (zU h4 25 5 (max (h4 25 5) ((h4 25 2) - 1)))) ∧ (¬ ((h4 25 2) - 1) ≤ m → ((¬ (h4 25 7) = 0 → K (zU h4 25 5 (max (h4 25 5) ((h4 25 2) - 1)))) ∧ ((h4 25 7) = 0 → K (zU (zU h4 25 5 (max (h4 25 5) ((h4 25 2) - 1))) 25 7 (h4 25 3)))))))))) := by
  obtain ⟨b1, b2, b3, b4, b5, b6⟩ := ok
  obtain ⟨e1, e2, e3, e4, e5, e6, e7, e8⟩ := hC
  obtain ⟨f1, f2, f3, f4, f5, f6⟩ := kFin_at m t q
  have fc : ∀ c n, kCt (kFin m t q) c n = kCt q c n := by
    intro c n
    unfold kCt
    rw [f2]
  have kf : kF h4 h4 := fun _ _ _ _ => rfl
  rw [e1, e2, e4, e6]
  have plain : ¬ (m < q 0 0 - 1 ∧ q 0 4 = 0) → K (zU h4 25 5 (max (q 0 2) (q 0 0 - 1))) := by
    intro c
    rw [if_neg c] at f6
    refine hK _ ⟨?_, ?_, ?_, ?_, ?_, ?_, fun j j0 j1 => ?_, fun x x0 x1 => ?_⟩ (kf.up (Or.inl rfl))
    · rw [zU_ne (by omega), f1]; exact e1
    · rw [zU_ne (by omega)]; exact e2
    · rw [zU_ne (by omega), f3]; exact e3
    · rw [zU_eq, f4]
    · rw [zU_ne (by omega), f5]; exact e5
    · rw [zU_ne (by omega), f6]; exact e6
    · rw [f1] at j1
      rw [zU_off 26 (by decide), f2]; exact e7 j j0 j1
    · rw [zU_off 27 (by decide), fc, f1]; exact e8 x x0 x1
  refine ⟨⟨by omega, by omega⟩, ⟨by omega, by omega⟩, ⟨by omega, by omega⟩, ⟨by omega, by omega⟩, fun c => plain (by omega), fun c => ⟨fun d => plain (by omega), fun d => ?_⟩⟩
  rw [if_pos ⟨by omega, d⟩] at f6
  refine hK _ ⟨?_, ?_, ?_, ?_, ?_, ?_, fun j j0 j1 => ?_, fun x x0 x1 => ?_⟩ ((kf.up (Or.inl rfl)).up (Or.inl rfl))
  · rw [zU_ne (by omega), zU_ne (by omega), f1]; exact e1
  · rw [zU_ne (by omega), zU_ne (by omega)]; exact e2
  · rw [zU_ne (by omega), zU_ne (by omega), f3]; exact e3
  · rw [zU_ne (by omega), zU_eq, f4]
  · rw [zU_ne (by omega), zU_ne (by omega), f5]; exact e5
  · rw [zU_eq, f6]
  · rw [f1] at j1
    rw [zU_off 26 (by decide), zU_off 26 (by decide), f2]; exact e7 j j0 j1
  · rw [zU_off 27 (by decide), zU_off 27 (by decide), fc, f1]; exact e8 x x0 x1
theorem kC_pu {t c : Int} {q h : zMm} (hC : kC t q h) (hs : 0 ≤ q 0 0) (hc : 0 ≤ c ∧ c < 36) : kC t (kPu c q) (zU (zU (zU h 26 (q 0 0) c) 25 2 (q 0 0 + 1)) 27 c (h 27 c + 1)) := by
  obtain ⟨e1, e2, e3, e4, e5, e6, e7, e8⟩ := hC
  obtain ⟨f1, f2, f3⟩ := kPu_at c q
  refine ⟨?_, ?_, ?_, ?_, ?_, ?_, fun j j0 j1 => ?_, fun x x0 x1 => ?_⟩
  · rw [f1, zU_off 25 (by decide), zU_eq]
  · rw [zU_off 25 (by decide), zU_ne (by omega), zU_off 25 (by decide)]; exact e2
  · rw [f2 1 (by decide), zU_off 25 (by decide), zU_ne (by omega), zU_off 25 (by decide)]; exact e3
  · rw [f2 2 (by decide), zU_off 25 (by decide), zU_ne (by omega), zU_off 25 (by decide)]; exact e4
  · rw [f2 3 (by decide), zU_off 25 (by decide), zU_ne (by omega), zU_off 25 (by decide)]; exact e5
  · rw [f2 4 (by decide), zU_off 25 (by decide), zU_ne (by omega), zU_off 25 (by decide)]; exact e6
  · rw [f1] at j1
    rw [f3, zU_off 26 (by decide), zU_off 26 (by decide), zU_at]
    simp only [true_and]
    by_cases cj : j = q 0 0
    · rw [if_pos cj, if_pos cj]
    · rw [if_neg cj, if_neg cj]; exact e7 j j0 (by omega)
  · have g : kCt (kPu c q) x (q 0 0).toNat = kCt q x (q 0 0).toNat := by
      refine zN36_cg _ (fun j j0 j1 => ?_)
      show decide (kPu c q 1 j = x) = decide (q 1 j = x)
      rw [f3, if_neg (by omega)]
    have g2 : kCt (kPu c q) x (kPu c q 0 0).toNat = if c = x then kCt q x (q 0 0).toNat + 1 else kCt q x (q 0 0).toNat := by
      rw [f1, show (q 0 0 + 1).toNat = (q 0 0).toNat + 1 by omega]
      show (if decide (kPu c q 1 (((q 0 0).toNat : Nat) : Int) = x) = true then kCt (kPu c q) x (q 0 0).toNat + 1 else kCt (kPu c q) x (q 0 0).toNat) = _
      rw [f3, if_pos (by omega : (((q 0 0).toNat : Nat) : Int) = q 0 0), g]
      by_cases cx : c = x
      · rw [if_pos (decide_eq_true cx), if_pos cx]
      · rw [if_neg (fun z => cx (of_decide_eq_true z)), if_neg cx]
    rw [g2, zU_at, zU_off 27 (by decide), zU_off 27 (by decide), e8 c hc.1 hc.2, e8 x x0 x1]
    simp only [true_and]
    by_cases cx : c = x
    · rw [if_pos cx.symm, if_pos cx, cx]
    · rw [if_neg (fun z => cx z.symm), if_neg cx]
theorem sX1_layOn {t c : Int} {q h : zMm} {K : zMm → Prop} (hC : kC t q h) (hs : 0 ≤ q 0 0 ∧ q 0 0 ≤ 120) (hc : 0 ≤ c ∧ c < 36) (hK : ∀ h', kC t (kPu c q) h' → kF h h' → K h') : zCv mX1_layOn [.ref 25, .int (zI c)] zS0 h K := by
  have kf : kF h h := fun _ _ _ _ => rfl
  refine wX1_layOn (sX11_isCell ⟨by omega, by omega⟩ ?_)
  simp only [decide_eq_true_eq, decide_eq_false_iff_not]
  rw [hC.1]
  exact ⟨⟨by omega, by omega⟩, fun d => absurd hc d, fun _ => ⟨fun d => absurd d (by omega), fun _ => ⟨⟨by omega, by omega⟩, hc, hK _ (kC_pu hC hs.1 hc) (((kf.up (Or.inr (Or.inl rfl))).up (Or.inl rfl)).up (Or.inr (Or.inr rfl)))⟩⟩⟩
theorem kC.went {t t' : Int} {q h : zMm} (hC : kC t q h) : kC t' q (zU h 25 3 t') := by
  obtain ⟨e1, e2, e3, e4, e5, e6, e7, e8⟩ := hC
  refine ⟨?_, ?_, ?_, ?_, ?_, ?_, fun j j0 j1 => ?_, fun x x0 x1 => ?_⟩
  · rw [zU_ne (by omega)]; exact e1
  · rw [zU_eq]
  · rw [zU_ne (by omega)]; exact e3
  · rw [zU_ne (by omega)]; exact e4
  · rw [zU_ne (by omega)]; exact e5
  · rw [zU_ne (by omega)]; exact e6
  · rw [zU_off 26 (by decide)]; exact e7 j j0 j1
  · rw [zU_off 27 (by decide)]; exact e8 x x0 x1
theorem kC.cr {t : Int} {q h : zMm} (hC : kC t q h) : kC t (kCr t q) (zU (zU h 25 4 (q 0 1 + 1)) 25 6 (if q 0 3 = 0 then t else q 0 3)) := by
  obtain ⟨e1, e2, e3, e4, e5, e6, e7, e8⟩ := hC
  obtain ⟨f1, f2, f3, f4, f5, f6⟩ := kCr_at t q
  have fc : ∀ c n, kCt (kCr t q) c n = kCt q c n := by
    intro c n
    unfold kCt
    rw [f2]
  refine ⟨?_, ?_, ?_, ?_, ?_, ?_, fun j j0 j1 => ?_, fun x x0 x1 => ?_⟩
  · rw [zU_ne (by omega), zU_ne (by omega), f1]; exact e1
  · rw [zU_ne (by omega), zU_ne (by omega)]; exact e2
  · rw [zU_ne (by omega), zU_eq, f3]
  · rw [zU_ne (by omega), zU_ne (by omega), f4]; exact e4
  · rw [zU_eq, f5]
  · rw [zU_ne (by omega), zU_ne (by omega), f6]; exact e6
  · rw [f1] at j1
    rw [zU_off 26 (by decide), zU_off 26 (by decide), f2]; exact e7 j j0 j1
  · rw [zU_off 27 (by decide), zU_off 27 (by decide), fc, f1]; exact e8 x x0 x1
theorem sX1_drawTo {t c m : Int} {q h : zMm} {K : zMm → Prop} (hC : kC t q h) (ok : kOk t q) (ht : 0 ≤ t ∧ t < 120) (hm : 1 ≤ m ∧ m ≤ 99) (hc : 0 ≤ c ∧ c < 36) (hK : ∀ h', kC (t + 1) (kOne m (t + 1) c q) h' → kF h h' → K h') : zCv mX1_drawTo [.ref 25, .int (zI c), .int (zI m)] zS0 h K := by
  have kf : kF h h := fun _ _ _ _ => rfl
  obtain ⟨e1, e2, e3, e4, e5, e6, e7, e8⟩ := id hC
  obtain ⟨b1, b2, b3, b4, b5, b6⟩ := id ok
  have e8c := e8 c hc.1 hc.2
  have hct := zN36_R (fun j => decide (q 1 j = c)) (q 0 0).toNat
  have hct2 : 0 ≤ kCt q c (q 0 0).toNat ∧ kCt q c (q 0 0).toNat ≤ ((q 0 0).toNat : Nat) := hct
  have hCw := hC.went (t' := t + 1)
  have kfw := kf.up (o := 25) (k := 3) (x := t + 1) (Or.inl rfl)
  unfold kOne at hK
  have lay : ¬ (2 ≤ q 0 0 ∧ q 1 (q 0 0 - 2) = c) → ((0 ≤ c ∧ c < 36) ∧ (zR (h 27 c) ∧ (((h 27 c) ≤ 0 → zCv mX1_layOn [.ref 25, .int (zI c)] zS0 (zU h 25 3 (t + 1)) (fun h4 => (zR (h4 25 5) ∧ (zR ((h4 25 2) - 1) ∧ (zR m ∧ (zR (h4 25 7) ∧ ((((h4 25 2) - 1) ≤ m → K (zU h4 25 5 (max (h4 25 5) ((h4 25 2) - 1)))) ∧ (¬ ((h4 25 2) - 1) ≤ m → ((¬ (h4 25 7) = 0 → K (zU h4 25 5 (max (h4 25 5) ((h4 25 2) - 1)))) ∧ ((h4 25 7) = 0 → K (zU (zU h4 25 5 (max (h4 25 5) ((h4 25 2) - 1))) 25 7 (h4 25 3)))))))))))) ∧ (¬ (h 27 c) ≤ 0 → (zR (q 0 3) ∧ zCv mX1_layOn [.ref 25, .int (zI c)] zS0 (zU (zU (zU h 25 3 (t + 1)) 25 4 (q 0 1 + 1)) 25 6 (if q 0 3 = 0 then t + 1 else q 0 3)) (fun h4 => (zR (h4 25 5) ∧ (zR ((h4 25 2) - 1) ∧ (zR m ∧ (zR (h4 25 7) ∧ ((((h4 25 2) - 1) ≤ m → K (zU h4 25 5 (max (h4 25 5) ((h4 25 2) - 1)))) ∧ (¬ ((h4 25 2) - 1) ≤ m → ((¬ (h4 25 7) = 0 → K (zU h4 25 5 (max (h4 25 5) ((h4 25 2) - 1)))) ∧ ((h4 25 7) = 0 → K (zU (zU h4 25 5 (max (h4 25 5) ((h4 25 2) - 1))) 25 7 (h4 25 3)))))))))))))))) := by
    intro c1
    rw [if_neg c1] at hK
    rw [e8c]
    refine ⟨hc, ⟨by omega, by omega⟩, fun d => ?_, fun d => ⟨⟨by omega, by omega⟩, ?_⟩⟩
    · rw [if_neg (by omega)] at hK
      exact sX1_layOn hCw ⟨by omega, by omega⟩ hc (fun h4 C4 F4 => kTail C4 (kPu_ok ok.up (by omega) hc) ⟨by omega, by omega⟩ hm (fun h' C' F' => hK h' C' ((kfw.trans F4).trans F')))
    · rw [if_pos (by omega)] at hK
      have f0 := (kCr_at (t + 1) q).1
      exact sX1_layOn hCw.cr ⟨by omega, by omega⟩ hc (fun h4 C4 F4 => kTail C4 (kPu_ok (kCr_ok ok ht.1) (by omega) hc) ⟨by omega, by omega⟩ hm (fun h' C' F' => hK h' C' ((((kfw.up (Or.inl rfl)).up (Or.inl rfl)).trans F4).trans F')))
  refine wX1_drawTo ?_
  rw [e1, e2, e3, e4, e5, e6]
  refine ⟨⟨by omega, by omega⟩, fun c1 => lay (by omega), fun c1 => ⟨⟨by omega, by omega⟩, ?_⟩⟩
  have e72 := e7 (q 0 0 - 2) (by omega) (by omega)
  have e71 := e7 (q 0 0 - 1) (by omega) (by omega)
  have b62 := b6 (q 0 0 - 2) (by omega) (by omega)
  have b61 := b6 (q 0 0 - 1) (by omega) (by omega)
  rw [e72, e71]
  refine ⟨⟨by omega, by omega⟩, ⟨by omega, by omega⟩, fun c2 => lay (fun z => c2 z.2), fun c2 => ⟨⟨by omega, by omega⟩, b61, ?_⟩⟩
  rw [if_pos ⟨by omega, c2⟩] at hK
  have hCp : kC (t + 1) (zU q 0 0 (q 0 0 - 1)) (zU (zU (zU h 25 3 (t + 1)) 25 2 (q 0 0 - 1)) 27 (q 1 (q 0 0 - 1)) (h 27 (q 1 (q 0 0 - 1)) - 1)) := by
    refine ⟨?_, ?_, ?_, ?_, ?_, ?_, fun j j0 j1 => ?_, fun x x0 x1 => ?_⟩
    · rw [zU_off 25 (by decide), zU_eq, zU_eq]
    · rw [zU_off 25 (by decide), zU_ne (by omega), zU_eq]
    · rw [zU_off 25 (by decide), zU_ne (by omega), zU_ne (by omega), zU_ne (by omega)]; exact e3
    · rw [zU_off 25 (by decide), zU_ne (by omega), zU_ne (by omega), zU_ne (by omega)]; exact e4
    · rw [zU_off 25 (by decide), zU_ne (by omega), zU_ne (by omega), zU_ne (by omega)]; exact e5
    · rw [zU_off 25 (by decide), zU_ne (by omega), zU_ne (by omega), zU_ne (by omega)]; exact e6
    · rw [zU_eq] at j1
      rw [zU_off 26 (by decide), zU_off 26 (by decide), zU_off 26 (by decide), zU_off 1 (by decide)]; exact e7 j j0 (by omega)
    · have g : kCt q x (q 0 0).toNat = if q 1 (q 0 0 - 1) = x then kCt q x (q 0 0 - 1).toNat + 1 else kCt q x (q 0 0 - 1).toNat := by
        rw [show (q 0 0).toNat = (q 0 0 - 1).toNat + 1 by omega]
        show (if decide (q 1 ((((q 0 0 - 1).toNat : Nat)) : Int) = x) = true then kCt q x (q 0 0 - 1).toNat + 1 else kCt q x (q 0 0 - 1).toNat) = _
        rw [show ((((q 0 0 - 1).toNat : Nat)) : Int) = q 0 0 - 1 by omega]
        by_cases cx : q 1 (q 0 0 - 1) = x
        · rw [if_pos (decide_eq_true cx), if_pos cx]
        · rw [if_neg (fun z => cx (of_decide_eq_true z)), if_neg cx]
      have g2 : kCt (zU q 0 0 (q 0 0 - 1)) x ((zU q 0 0 (q 0 0 - 1)) 0 0).toNat = kCt q x (q 0 0 - 1).toNat := by
        rw [zU_eq]
        unfold kCt
        rw [zU_off 1 (by decide)]
      rw [g2, zU_at, zU_off 27 (by decide), zU_off 27 (by decide)]
      simp only [true_and]
      have h1 := e8 x x0 x1
      rw [g] at h1
      by_cases cx : q 1 (q 0 0 - 1) = x
      · rw [if_pos cx] at h1
        rw [if_pos cx.symm, cx, h1]
        omega
      · rw [if_neg cx] at h1
        rw [if_neg (fun z => cx z.symm), h1]
  have okp : kOk (t + 1) (zU q 0 0 (q 0 0 - 1)) := by
    refine ⟨?_, ?_, ?_, ?_, ?_, fun j j0 j1 => ?_⟩
    · simp [zU]; omega
    · simp [zU]; omega
    · simp [zU]; omega
    · simp [zU]; omega
    · simp [zU]; omega
    · have j2 : j < q 0 0 - 1 := by simpa [zU] using j1
      have := b6 j j0 (by omega)
      simpa [zU] using this
  have key := kTail (K := K) hCp okp ⟨by omega, by omega⟩ hm (fun h' C' F' => hK h' C' (((kfw.up (Or.inl rfl)).up (Or.inr (Or.inr rfl))).trans F'))
  rw [hCp.1, hCp.2.1, hCp.2.2.2.1, hCp.2.2.2.2.2.1] at key
  rw [show (zU q 0 0 (q 0 0 - 1)) 0 0 = q 0 0 - 1 from zU_eq _ _ _ _, show (zU q 0 0 (q 0 0 - 1)) 0 2 = q 0 2 from zU_ne (by omega), show (zU q 0 0 (q 0 0 - 1)) 0 4 = q 0 4 from zU_ne (by omega)] at key
  exact key
