/-! LEAST: the queue's walk, by numbers -/
def qW (v : Int) : Int := if v < 1000000 then v else 1450
def qP (f : Int → Int) : Nat → Int
  | 0 => 0
  | n + 1 => qP f n + qW (f (n : Int))
theorem qP_cg {f g : Int → Int} : ∀ n : Nat, (∀ y : Int, 0 ≤ y → y < n → g y = f y) → qP g n = qP f n := by
  intro n
  induction n with
  | zero => intro _; rfl
  | succ n ih =>
    intro h
    show qP g n + qW (g (n : Int)) = qP f n + qW (f (n : Int))
    rw [ih (fun y y0 y1 => h y y0 (by omega)), h (n : Int) (by omega) (by omega)]
theorem qP_up {f g : Int → Int} {o : Int} : ∀ n : Nat, 0 ≤ o → o < n → (∀ y : Int, 0 ≤ y → y < n → y ≠ o → g y = f y) → qP g n = qP f n - qW (f o) + qW (g o) := by
  intro n
  induction n with
  | zero => intro h0 h1; exact absurd h1 (by omega)
  | succ n ih =>
    intro h0 h1 h
    show qP g n + qW (g (n : Int)) = qP f n + qW (f (n : Int)) - qW (f o) + qW (g o)
    by_cases e : o = (n : Int)
    · rw [e, qP_cg n (fun y y0 y1 => h y y0 (by omega) (by omega))]
      omega
    · rw [ih h0 (by omega) (fun y y0 y1 y2 => h y y0 (by omega) y2), h (n : Int) (by omega) (by omega) (by omega)]
      omega
theorem qP_R {f : Int → Int} : ∀ n : Nat, (∀ y : Int, 0 ≤ y → y < n → 0 ≤ qW (f y) ∧ qW (f y) ≤ 1450) → 0 ≤ qP f n ∧ qP f n ≤ 1450 * (n : Int) := by
  intro n
  induction n with
  | zero => intro _; exact ⟨Int.le_refl _, Int.le_refl _⟩
  | succ n ih =>
    intro h
    have h1 := ih (fun y y0 y1 => h y y0 (by omega))
    have h2 := h (n : Int) (by omega) (by omega)
    show 0 ≤ qP f n + qW (f (n : Int)) ∧ qP f n + qW (f (n : Int)) ≤ 1450 * ((n + 1 : Nat) : Int)
    omega
def qN (f : Int → Int) : Int := zN36 (fun y => decide (f y < 1000000)) 144
/-- relaxed: all but the stand x, and that one up to b -/
def qX (Kd R : Int → Int) (f iq : Int → Int) (x b : Int) : Prop := ∀ y c l : Int, 0 ≤ y → y < 144 → iq y = 0 → 0 ≤ c → c < 36 → ¬ Kd c = 2 → 0 ≤ l → l ≤ 3 → zNx Kd c (y % 4) = y / 4 → (y = x → l < b) → f (c * 4 + l) ≤ lCo Kd R c l (y % 4) + f y
/-- the queue: distinct stands, all that are marked -/
def qQ (iq q : Int → Int) (hd n : Int) : Prop := (0 ≤ hd ∧ hd < 144) ∧ (0 ≤ n ∧ n ≤ 144) ∧ (∀ y : Int, 0 ≤ y → y < 144 → iq y = 0 ∨ iq y = 1) ∧ (∀ j : Int, 0 ≤ j → j < n → (0 ≤ q ((hd + j) % 144) ∧ q ((hd + j) % 144) < 144) ∧ iq (q ((hd + j) % 144)) = 1) ∧ (∀ y : Int, 0 ≤ y → y < 144 → iq y = 1 → ∃ j : Int, 0 ≤ j ∧ j < n ∧ q ((hd + j) % 144) = y) ∧ ∀ i j : Int, 0 ≤ i → i < j → j < n → q ((hd + i) % 144) ≠ q ((hd + j) % 144)
/-- minutes: bounds, the potential -/
def qV (Kd R : Int → Int) (tc look : Int) (f : Int → Int) (r n : Int) : Prop := ((∀ y : Int, 0 ≤ y → y < 144 → f y = 1000000 ∨ (0 ≤ f y ∧ f y ≤ 10 * qN f)) ∧ f (tc * 4 + look) = 0 ∧ (0 ≤ r ∧ r + n + qP f 144 ≤ 209000)) ∧ ∀ c l : Int, ∀ k : Nat, lDo Kd (k : Int) c l → lM Kd R (k : Int) c l ≤ f (c * 4 + l) + lM Kd R ((k ||| nb Kd tc : Nat) : Int) tc look
theorem qN_R (f : Int → Int) : 0 ≤ qN f ∧ qN f ≤ 144 := zN36_R _ 144
theorem qV_R {Kd R : Int → Int} {tc look r n : Int} {f : Int → Int} (h : qV Kd R tc look f r n) (y : Int) (y0 : 0 ≤ y) (y1 : y < 144) : (0 ≤ f y ∧ f y ≤ 1000000) ∧ (0 ≤ qW (f y) ∧ qW (f y) ≤ 1450) ∧ (f y = 1000000 ∨ f y ≤ 1440) := by
  have := qN_R f
  unfold qW
  rcases h.1.1 y y0 y1 with e | e
  · rw [e]; exact ⟨by decide, by decide, Or.inl rfl⟩
  · rw [if_pos (by omega)]; exact ⟨by omega, by omega, Or.inr (by omega)⟩
theorem qV_P {Kd R : Int → Int} {tc look r n : Int} {f : Int → Int} (h : qV Kd R tc look f r n) : 0 ≤ qP f 144 := (qP_R 144 (fun y y0 y1 => (qV_R h y y0 (by omega)).2.1)).1
theorem qQ_pop {iq iq' q : Int → Int} {hd n : Int} (h : qQ iq q hd n) (hn : 0 < n) (h0 : iq' (q hd) = 0) (h1 : ∀ y : Int, y ≠ q hd → iq' y = iq y) : qQ iq' q ((hd + 1) % 144) (n - 1) := by
  obtain ⟨a1, a2, a3, a4, a5, a6⟩ := h
  have e0 : (hd + 0) % 144 = hd := by omega
  have ej : ∀ j : Int, 0 ≤ j → ((hd + 1) % 144 + j) % 144 = (hd + (j + 1)) % 144 := fun j _ => by omega
  refine ⟨⟨by omega, by omega⟩, ⟨by omega, by omega⟩, fun y y0 y1 => ?_, fun j j0 j1 => ?_, fun y y0 y1 hy => ?_, fun i j i0 ij jn => ?_⟩
  · by_cases e : y = q hd
    · rw [e]; exact Or.inl h0
    · rw [h1 y e]; exact a3 y y0 y1
  · rw [ej j j0]
    have q1 := a4 (j + 1) (by omega) (by omega)
    have q2 := a6 0 (j + 1) (by omega) (by omega) (by omega)
    rw [e0] at q2
    rw [h1 _ (fun z => q2 z.symm)]
    exact q1
  · have hne : y ≠ q hd := fun z => by rw [z, h0] at hy; exact absurd hy (by decide)
    rw [h1 y hne] at hy
    obtain ⟨j, j0, j1, e⟩ := a5 y y0 y1 hy
    have : ¬ j = 0 := fun z => by rw [z, e0] at e; exact hne e.symm
    refine ⟨j - 1, by omega, by omega, ?_⟩
    rw [ej _ (by omega), show j - 1 + 1 = j by omega]
    exact e
  · rw [ej i i0, ej j (by omega)]
    exact a6 (i + 1) (j + 1) (by omega) (by omega) (by omega)
theorem qQ_room {iq q : Int → Int} {hd n o : Int} (h : qQ iq q hd n) (o0 : 0 ≤ o ∧ o < 144) (ho : iq o = 0) : n < 144 := by
  obtain ⟨a1, a2, a3, a4, a5, a6⟩ := h
  refine Int.not_le.mp (fun c => ?_)
  obtain ⟨i, j, h1, h2, h3⟩ := pigeon 144 (fun i => if i = 144 then o.toNat else (q ((hd + (i : Int)) % 144)).toNat) (fun i hi => by
    show (if i = 144 then o.toNat else (q ((hd + (i : Int)) % 144)).toNat) < 144
    split
    · omega
    · have := (a4 (i : Int) (by omega) (by omega)).1
      omega)
  have h3 : (if i = 144 then o.toNat else (q ((hd + (i : Int)) % 144)).toNat) = (if j = 144 then o.toNat else (q ((hd + (j : Int)) % 144)).toNat) := h3
  have qi := a4 (i : Int) (by omega) (by omega)
  rw [if_neg (by omega)] at h3
  by_cases e : j = 144
  · rw [if_pos e] at h3
    have : q ((hd + (i : Int)) % 144) = o := by omega
    rw [this, ho] at qi
    exact absurd qi.2 (by decide)
  · rw [if_neg e] at h3
    have qj := a4 (j : Int) (by omega) (by omega)
    exact a6 (i : Int) (j : Int) (by omega) (by omega) (by omega) (by omega)
theorem qQ_put {iq iq' q q' : Int → Int} {hd n o : Int} (h : qQ iq q hd n) (o0 : 0 ≤ o ∧ o < 144) (ho : iq o = 0) (h0 : iq' o = 1) (h1 : ∀ y : Int, y ≠ o → iq' y = iq y) (g0 : q' ((hd + n) % 144) = o) (g1 : ∀ y : Int, y ≠ (hd + n) % 144 → q' y = q y) : qQ iq' q' hd (n + 1) := by
  have hr := qQ_room h o0 ho
  obtain ⟨a1, a2, a3, a4, a5, a6⟩ := h
  have ne : ∀ j : Int, 0 ≤ j → j < n → (hd + j) % 144 ≠ (hd + n) % 144 := fun j _ _ => by omega
  have no : ∀ j : Int, 0 ≤ j → j < n → q ((hd + j) % 144) ≠ o := fun j j0 j1 z => by
    have := (a4 j j0 j1).2
    rw [z, ho] at this
    exact absurd this (by decide)
  refine ⟨a1, ⟨by omega, by omega⟩, fun y y0 y1 => ?_, fun j j0 j1 => ?_, fun y y0 y1 hy => ?_, fun i j i0 ij jn => ?_⟩
  · by_cases e : y = o
    · rw [e]; exact Or.inr h0
    · rw [h1 y e]; exact a3 y y0 y1
  · by_cases e : j = n
    · rw [e, g0]; exact ⟨o0, h0⟩
    · rw [g1 _ (ne j j0 (by omega)), h1 _ (no j j0 (by omega))]
      exact a4 j j0 (by omega)
  · by_cases e : y = o
    · exact ⟨n, by omega, by omega, g0.trans e.symm⟩
    · rw [h1 y e] at hy
      obtain ⟨j, j0, j1, z⟩ := a5 y y0 y1 hy
      exact ⟨j, j0, by omega, (g1 _ (ne j j0 j1)).trans z⟩
  · rw [g1 _ (ne i i0 (by omega))]
    by_cases e : j = n
    · rw [e, g0]; exact no i i0 (by omega)
    · rw [g1 _ (ne j (by omega) (by omega))]
      exact a6 i j i0 ij (by omega)
/-- a stand's minutes fall -/
theorem qV_low {Kd R : Int → Int} {tc look r n o x c l w : Int} {f g : Int → Int} (hR : zRu R) (hG : lRk Kd 36 ≤ 7) (htc : 0 ≤ tc ∧ tc < 36) (cT : ¬ Kd tc = 2) (hl : 0 ≤ look ∧ look ≤ 3) (h : qV Kd R tc look f r n) (hc : 0 ≤ c ∧ c < 36 ∧ ¬ Kd c = 2) (h4 : 0 ≤ l ∧ l ≤ 3) (hw : 0 ≤ w ∧ w ≤ 3) (ho : o = c * 4 + l) (hz : 0 ≤ zNx Kd c w) (hx : x = zNx Kd c w * 4 + w) (x1 : x < 144) (lt : lCo Kd R c l w + f x < f o) (g0 : g o = lCo Kd R c l w + f x) (g1 : ∀ y : Int, 0 ≤ y → y < 144 → y ≠ o → g y = f y) : qV Kd R tc look g r (n + 1) ∧ qV Kd R tc look g r n := by
  have hco := lCo_R (Kd := Kd) hR c l w
  have o0 : 0 ≤ o ∧ o < 144 := by omega
  have fo := qV_R h o o0.1 o0.2
  have fx := qV_R h x (by omega) x1
  have hN := qN_R f
  have hNg := qN_R g
  obtain ⟨⟨h1, h2, h3⟩, h5⟩ := h
  have hup : qP g 144 = qP f 144 - qW (f o) + qW (g o) := qP_up 144 o0.1 (by omega) (fun y y0 y1 y2 => g1 y y0 (by omega) y2)
  have bx : 0 ≤ f x ∧ f x ≤ 10 * qN f := by
    rcases h1 x (by omega) x1 with e | e
    · omega
    · exact e
  have key : qN f ≤ qN g ∧ g o ≤ 10 * qN g ∧ qW (g o) + 1 ≤ qW (f o) := by
    have eg : qW (g o) = g o := if_pos (by omega)
    rw [eg]
    by_cases e : f o = 1000000
    · have ef : qW (f o) = 1450 := if_neg (by omega)
      have e1 : qN g = qN f + 1 := by
        have p := zN36_up (P := fun y => decide (f y < 1000000)) (x := o) (decide_eq_false (by omega)) o0.1 144
        rw [if_pos (show o < ((144 : Nat) : Int) by omega)] at p
        unfold qN
        rw [← p]
        refine zN36_cg 144 (fun j j0 j1 => ?_)
        by_cases q : j = o
        · rw [if_pos q, q]; exact decide_eq_true (by omega)
        · rw [if_neg q, g1 j j0 (by omega) q]
      rw [ef]
      omega
    · have ef : qW (f o) = f o := if_pos (by omega)
      have e1 : qN g = qN f := by
        unfold qN
        refine zN36_cg 144 (fun j j0 j1 => ?_)
        by_cases q : j = o
        · rw [q, decide_eq_true (show g o < 1000000 by omega), decide_eq_true (show f o < 1000000 by omega)]
        · rw [g1 j j0 (by omega) q]
      rcases h1 o o0.1 o0.2 with z | z
      · exact absurd z e
      · rw [ef]
        omega
  have k1 : ∀ y : Int, 0 ≤ y → y < 144 → g y = 1000000 ∨ (0 ≤ g y ∧ g y ≤ 10 * qN g) := fun y y0 y1 => by
    by_cases q : y = o
    · rw [q]; exact Or.inr ⟨by omega, by omega⟩
    · rw [g1 y y0 y1 q]
      rcases h1 y y0 y1 with z | z
      · exact Or.inl z
      · exact Or.inr ⟨by omega, by omega⟩
  have k2 : g (tc * 4 + look) = 0 := by
    rw [g1 _ (by omega) (by omega) (fun z => by rw [z] at h2; omega)]
    exact h2
  have k3 : ∀ c l : Int, ∀ k : Nat, lDo Kd (k : Int) c l → lM Kd R (k : Int) c l ≤ g (c * 4 + l) + lM Kd R ((k ||| nb Kd tc : Nat) : Int) tc look := by
    intro c2 l2 k hd
    obtain ⟨k', ek, d2, d3, d4, d5⟩ := hd
    obtain rfl : k = k' := by omega
    by_cases q : c2 * 4 + l2 = o
    · obtain rfl : c2 = c := by omega
      obtain rfl : l2 = l := by omega
      rw [q, g0]
      by_cases ha : (k : Int) = lAll Kd
      · rw [ha, lM_all]
        have := lM_R (Kd := Kd) hR ((k ||| nb Kd tc : Nat) : Int) tc look
        omega
      · have s := lM_le hR (l := l2) ha hw hz
        have hs := (show lDm Kd (k : Int) c2 l2 from ⟨k, rfl, d2, d3, d4⟩).step hG hw hz
        rcases zNx_R (Kd := Kd) (way := w) (show 0 ≤ c2 ∧ c2 < 36 from ⟨hc.1, hc.2.1⟩) with z | ⟨z1, z2, z3⟩
        · omega
        · rw [nA_bt hG d2 ⟨z1, z2⟩] at s hs
          have t := h5 _ _ _ hs
          have hb := nb_le (Kd := Kd) (c := zNx Kd c2 w) ⟨z1, z2⟩
          have hb2 := nb_le (Kd := Kd) htc
          have e : (k ||| nb Kd (zNx Kd c2 w)) ||| nb Kd tc = (k ||| nb Kd tc) ||| nb Kd (zNx Kd c2 w) := by rw [Nat.or_assoc, Nat.or_comm (nb Kd _), ← Nat.or_assoc]
          rw [e] at t
          have mm := lM_mask hR hG (k := k ||| nb Kd tc) (e := nb Kd (zNx Kd c2 w)) (nA_or d2 hb2) hb ⟨htc.1, htc.2, cT⟩ hl
          rw [hx]
          omega
    · rw [g1 _ (by omega) (by omega) q]
      exact h5 c2 l2 k ⟨k, rfl, d2, d3, d4, d5⟩
  exact ⟨⟨⟨k1, k2, ⟨h3.1, by omega⟩⟩, k3⟩, ⟨⟨k1, k2, ⟨h3.1, by omega⟩⟩, k3⟩⟩
