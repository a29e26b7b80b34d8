/-! IMAGES: keep, back -/
def zKp (a : zMm) (b : Nat) (s : Int) : zMm := fun o i => if o = b then a 0 i else if o = b + 1 then a 1 i else if o = b + 2 then a 3 i else if o = b + 3 then a 5 i else if o = b + 4 then a 6 i else if o = b + 5 then a 7 i else if o = 7 ∧ i = s then 1 else a o i
theorem zKp_at (a : zMm) (b : Nat) (s : Int) (hb : b = 10 ∨ b = 20) : zKp a b s b = a 0 ∧ zKp a b s (b + 1) = a 1 ∧ zKp a b s (b + 2) = a 3 ∧ zKp a b s (b + 3) = a 5 ∧ zKp a b s (b + 4) = a 6 ∧ zKp a b s (b + 5) = a 7 ∧ zKp a b s 7 s = 1 ∧ (∀ i, i ≠ s → zKp a b s 7 i = a 7 i) ∧ ∀ o : Nat, o ≠ 7 → ¬ (b ≤ o ∧ o ≤ b + 5) → zKp a b s o = a o := by
  refine ⟨?_, ?_, ?_, ?_, ?_, ?_, ?_, fun i ci => ?_, fun o c1 c2 => ?_⟩
  · funext i; unfold zKp; rw [if_pos rfl]
  · funext i; unfold zKp; rw [if_neg (by omega), if_pos rfl]
  · funext i; unfold zKp; rw [if_neg (by omega), if_neg (by omega), if_pos rfl]
  · funext i; unfold zKp; rw [if_neg (by omega), if_neg (by omega), if_neg (by omega), if_pos rfl]
  · funext i; unfold zKp; rw [if_neg (by omega), if_neg (by omega), if_neg (by omega), if_neg (by omega), if_pos rfl]
  · funext i; unfold zKp; rw [if_neg (by omega), if_neg (by omega), if_neg (by omega), if_neg (by omega), if_neg (by omega), if_pos rfl]
  · unfold zKp; rw [if_neg (by omega), if_neg (by omega), if_neg (by omega), if_neg (by omega), if_neg (by omega), if_neg (by omega), if_pos ⟨rfl, rfl⟩]
  · unfold zKp; rw [if_neg (by omega), if_neg (by omega), if_neg (by omega), if_neg (by omega), if_neg (by omega), if_neg (by omega), if_neg (fun z => ci z.2)]
  · funext i; unfold zKp; rw [if_neg (by omega), if_neg (by omega), if_neg (by omega), if_neg (by omega), if_neg (by omega), if_neg (by omega), if_neg (fun z => c1 z.1)]
theorem zKp_W {a : zMm} {b : Nat} {s : Int} (W : WF a) (hb : b = 10 ∨ b = 20) : zWi (zKp a b s) b := by
  obtain ⟨e0, e1, e2, e3, e4, e5, -, -, -⟩ := zKp_at a b s hb
  unfold zWi
  rw [e0, e1, e2, e3, e4, e5]
  refine ⟨fun i i0 i1 => ?_, W.2.2.2.1.1, W.2.2.2.1.2⟩
  obtain ⟨w0, w1, w2, w3, w4⟩ := W.1 i i0 i1
  exact ⟨w0, w1, w3, w4⟩
theorem zWi_to {a a' : zMm} {b : Nat} (H : zWi a b) (e : ∀ o : Nat, b ≤ o → o ≤ b + 5 → a' o = a o) : zWi a' b := by
  unfold zWi at *
  rw [e b (by omega) (by omega), e (b + 1) (by omega) (by omega), e (b + 2) (by omega) (by omega), e (b + 3) (by omega) (by omega), e (b + 4) (by omega) (by omega), e (b + 5) (by omega) (by omega)]
  exact H
theorem cI1_to {a h a' h' : zMm} {b g m : Nat} (H : cI1 a h b g m) (e : ∀ o : Nat, b ≤ o → o ≤ b + 5 → a' o = a o) (eh : h' (g + 1) = h (g + 1) ∧ h' (g + 2) = h (g + 2) ∧ h' (g + 4) = h (g + 4) ∧ h' m = h m ∧ h' (m + 1) = h (m + 1) ∧ h' (m + 2) = h (m + 2)) : cI1 a' h' b g m := by
  obtain ⟨q1, q2, q3, q4, q5, q6⟩ := eh
  unfold cI1 at *
  rw [e b (by omega) (by omega), e (b + 1) (by omega) (by omega), e (b + 2) (by omega) (by omega), e (b + 3) (by omega) (by omega), e (b + 4) (by omega) (by omega), e (b + 5) (by omega) (by omega), q1, q2, q3, q4, q5, q6]
  exact H
theorem mI1_to {a h a' h' : zMm} {b : Nat} {p : Int} (H : mI1 a h b p) (e : ∀ o : Nat, b ≤ o → o ≤ b + 5 → a' o = a o) (hz : 0 ≤ a (b + 5) 0 ∧ a (b + 5) 0 ≤ 24) (eh : ∀ i : Int, p ≤ i → i < p + 200 → h' 92 i = h 92 i) : mI1 a' h' b p := by
  unfold mI1 at *
  rw [e b (by omega) (by omega), e (b + 1) (by omega) (by omega), e (b + 2) (by omega) (by omega), e (b + 3) (by omega) (by omega), e (b + 4) (by omega) (by omega), e (b + 5) (by omega) (by omega)]
  obtain ⟨k1, k2, k3⟩ := H
  refine ⟨fun i i0 i1 => ?_, ?_, fun i i0 i1 => ?_⟩
  · rw [eh _ (by omega) (by omega), eh _ (by omega) (by omega), eh _ (by omega) (by omega)]
    exact k1 i i0 i1
  · rw [eh _ (by omega) (by omega)]
    exact k2
  · rw [eh _ (by omega) (by omega), eh _ (by omega) (by omega)]
    exact k3 i i0 i1
def aKeep (a : zMm) (k : Int) : zMm := if k = 0 then zKp a 10 4 else if k = 1 then zKp a 20 5 else a
def fKeep (a : zMm) (k : Int) : Int := if k = 0 then a 7 4 else if k = 1 then a 7 5 else -1
/-- n ints are copied to p -/
def zKc (h : zMm) (p n : Int) : zMm := fun o i => if o = 92 ∧ p ≤ i ∧ i < p + n then h 92 (i - p) else h o i
theorem zKc_st (h : zMm) (p n : Int) (hp : 200 ≤ p) (hn : 0 ≤ n ∧ n < 200) : zU (zKc h p n) 92 (p + n) ((zKc h p n) 92 n) = zKc h p (n + 1) := by
  have e : (zKc h p n) 92 n = h 92 n := by
    unfold zKc
    rw [if_neg (by omega)]
  rw [e]
  funext o i
  simp only [zU_at]
  unfold zKc
  by_cases c1 : o = 92 ∧ i = p + n
  · rw [if_pos c1, if_pos (by omega), show i - p = n by omega]
  · rw [if_neg c1]
    by_cases c2 : o = 92 ∧ p ≤ i ∧ i < p + n
    · rw [if_pos c2, if_pos (by omega)]
    · rw [if_neg c2, if_neg (by omega)]
theorem keep_in {h : zMm} {v1 : Int} {K : Int → zMm → Prop} (hv : 0 ≤ v1 ∧ v1 < 2) (hz : h 104 v1 = 0 ∨ h 104 v1 = 1) (hK : K (h 104 v1) (zU (zKc h (200 * (v1 + 1)) 200) 104 v1 1)) : ∀ (n : Nat) (i : Int), 0 ≤ i → i + n = 200 → RR mX12_keep 0 0 18 [some (.ref 81), some (.int (zI v1)), some (.int (zI i))] [] zS0 (zKc h (200 * (v1 + 1)) i) (zQi zS0 K) := by
  intro n
  induction n with
  | zero =>
    intro i i0 i1
    refine bX12_keep_18 ⟨⟨by omega, by omega⟩, fun _ => ⟨hv, ?_⟩, fun d => absurd (by omega) d⟩
    have e : (zKc h (200 * (v1 + 1)) i) 104 v1 = h 104 v1 := by
      unfold zKc
      rw [if_neg (fun z => absurd z.1 (by decide))]
    rw [e, bI_im hz, show i = 200 by omega]
    exact ⟨⟨by omega, by omega⟩, hK⟩
  | succ n ih =>
    intro i i0 i1
    refine bX12_keep_18 ⟨⟨by omega, by omega⟩, fun d => absurd d (by omega), fun _ => ⟨⟨by omega, by omega⟩, ⟨by omega, by omega⟩, ?_⟩⟩
    rw [zKc_st h _ i (by omega) ⟨i0, by omega⟩]
    exact ih (i + 1) (by omega) (by omega)
theorem keepw_0 {a : zMm} (W : WF a) : WF (zKp a 10 4) := by
  have W0 := W
  obtain ⟨e0, e1, e2, e3, e4, e5, e6, e7, e8⟩ := zKp_at a 10 4 (Or.inl rfl)
  obtain ⟨w1, w2, w3, w4, w5, w6, w7, w8⟩ := W
  refine ⟨?_, ?_, ?_, ?_, ?_, ?_, ⟨Or.inr e6, by rw [e7 5 (by decide)]; exact w7.2.1, fun _ => zKp_W W0 (Or.inl rfl), fun c => zWi_to (w7.2.2.2 (by rw [← e7 5 (by decide)]; exact c)) (fun o _ _ => e8 o (by omega) (by omega))⟩, fun k hk => ?_⟩
  · rw [e8 0 (by decide) (by decide), e8 1 (by decide) (by decide), e8 2 (by decide) (by decide), e8 3 (by decide) (by decide)]
    exact w1
  · rw [e8 4 (by decide) (by decide)]
    exact w2
  · rw [e8 4 (by decide) (by decide), e8 0 (by decide) (by decide)]
    exact w3
  · unfold zMW
    rw [e7 0 (by decide), e8 5 (by decide) (by decide), e8 6 (by decide) (by decide)]
    exact w4
  · rw [e7 1 (by decide), e8 8 (by decide) (by decide)]
    exact w5
  · rw [e7 2 (by decide), e7 3 (by decide)]
    exact w6
  · rw [e8 30 (by decide) (by decide), e8 31 (by decide) (by decide), e8 (32 + k) (by omega) (by omega)]
    exact w8 k hk
theorem keepc_0 {a h : zMm} (W : WF a) (C : CR a h) (n : Int) (hn : n = a 7 0) : CR (zKp a 10 4) (zU (zU (zCp (zCp (zCp (zCp (zCp h 11 53 36) 12 54 36) 14 56 36) 17 66 24) 18 67 24) 65 2 n) 71 0 1) := by
  obtain ⟨e0, e1, e2, e3, e4, e5, e6, e7, e8⟩ := zKp_at a 10 4 (Or.inl rfl)
  have hW := W.2.2.2.1
  have hz := hW.1
  obtain ⟨i1, i2, i3, i4⟩ := C.2.2.2.1
  obtain ⟨⟨q1, q2⟩, q3, q4⟩ := C.1
  obtain ⟨m1, m2⟩ := C.2.1
  refine C.image (fun o c1 c2 => e8 o c1 (by omega)) (fun i c1 c2 => e7 i (by omega)) (fun o ho => ?_) ⟨?_, ?_, fun _ => ?_, fun c => cI1_to (i4 (by rw [← e7 5 (by decide)]; exact c)) (fun o _ _ => e8 o (by omega) (by omega)) ⟨by funext i; simp [zU, zCp], by funext i; simp [zU, zCp], by funext i; simp [zU, zCp], by funext i; simp [zU, zCp], by funext i; simp [zU, zCp], by funext i; simp [zU, zCp]⟩⟩
  · rw [zU_off o (by omega), zU_off o (by omega), zCp_off o (by omega), zCp_off o (by omega), zCp_off o (by omega), zCp_off o (by omega), zCp_off o (by omega)]
  · rw [zU_eq, e6]
  · rw [zU_ne (by omega), e7 5 (by decide), ← i2]
    simp [zU, zCp]
  · unfold cI1
    rw [show zKp a 10 4 (10 + 1) = a 1 from e1, show zKp a 10 4 (10 + 2) = a 3 from e2, show zKp a 10 4 (10 + 3) = a 5 from e3, show zKp a 10 4 (10 + 4) = a 6 from e4, show zKp a 10 4 (10 + 5) = a 7 from e5, e0]
    refine ⟨fun i i0 i1 => ?_, ?_, fun i i0 i1 => ?_⟩
    · rw [← (q1 i i0 i1).1, ← (q3 i i0 i1).1, ← (q3 i i0 i1).2]
      refine ⟨?_, ?_, ?_⟩ <;> simp [zU, zCp, i0, i1]
    · rw [zU_off 65 (by decide), zU_eq]
      exact hn
    · rw [← (m2 i i0 i1).1, ← (m2 i i0 i1).2]
      have i2 : i < 24 := by omega
      refine ⟨?_, ?_⟩ <;> simp [zU, zCp, i0, i2]
theorem keepm_0 {a h : zMm} (W : WF a) (M : MR a h) (A : mA a h) : MR (zKp a 10 4) (zU (zKc h 200 200) 104 0 1) := by
  obtain ⟨e0, e1, e2, e3, e4, e5, e6, e7, e8⟩ := zKp_at a 10 4 (Or.inl rfl)
  have w7 := W.2.2.2.2.2.2.1
  have hW := W.2.2.2.1
  have hz := hW.1
  have on := mA.on M A
  obtain ⟨m1, m2, ⟨i1, i2, i3, i4⟩, m4, m5, m6⟩ := M
  obtain ⟨⟨q1, q2, q3, q4, q5⟩, q6⟩ := A
  have ez : ∀ o : Nat, o ≠ 92 → (zKc h 200 200) o = h o := by
    intro o ho
    funext i
    unfold zKc
    rw [if_neg (fun z => ho z.1)]
  have ey : ∀ o : Nat, o ≠ 92 → o ≠ 104 → (zU (zKc h 200 200) 104 0 1) o = h o := fun o c1 c2 => (zU_off o c2).trans (ez o c1)
  have e9 : (zU (zKc h 200 200) 104 0 1) 92 = (zKc h 200 200) 92 := zU_off 92 (by decide)
  have ei : ∀ i : Int, ¬ (200 ≤ i ∧ i < 200 + 200) → (zU (zKc h 200 200) 104 0 1) 92 i = h 92 i := by
    intro i hi
    rw [e9]
    unfold zKc
    rw [if_neg (fun z => hi z.2)]
  have ej : ∀ i : Int, 0 ≤ i → i < 200 → (zU (zKc h 200 200) 104 0 1) 92 (200 + i) = h 92 i := by
    intro i c1 c2
    rw [e9]
    unfold zKc
    rw [if_pos ⟨rfl, by omega, by omega⟩, show 200 + i - 200 = i by omega]
  refine ⟨Or.inl ⟨?_, ⟨fun i i0 i1 => ?_, fun r r0 r1 => ?_, ?_, fun i i0 i1 => ?_, fun i i0 i1 => ?_⟩, fun i i0 i1 => ?_⟩, m2.to (e7 1 (by decide)) (e8 8 (by decide) (by decide)) (congrFun (ey _ (by decide) (by decide)) 1) (ey _ (by decide) (by decide)), ⟨?_, ?_, fun _ => ?_, fun c => mI1_to (i4 (by rw [← e7 5 (by decide)]; exact c)) (fun o _ _ => e8 o (by omega) (by omega)) (w7.2.2.2 (by rw [← e7 5 (by decide)]; exact c)).2.1 (fun i i0 i1 => by rw [ei i (by omega)])⟩, m4.to (fun o _ _ => e8 o (by omega) (by omega)) (ey _ (by decide) (by decide)) (ey _ (by decide) (by decide)) (ey _ (by decide) (by decide)), m5.to (e7 2 (by decide)) (e7 3 (by decide)) (congrFun (ey _ (by decide) (by decide)) 2) (congrFun (ey _ (by decide) (by decide)) 50), m6.to (fun o _ _ => ey o (by omega) (by omega))⟩
  · rw [ey 81 (by decide) (by decide)]
    exact on
  · rw [ei i (by omega), e8 0 (by decide) (by decide)]
    exact q1 i i0 i1
  · rw [ey 88 (by decide) (by decide), e8 4 (by decide) (by decide)]
    exact q2 r r0 r1
  · rw [ei 192 (by omega), e7 0 (by decide)]
    exact q3
  · rw [e7 0 (by decide)] at i1
    rw [ei _ (by omega), ei _ (by omega), e8 5 (by decide) (by decide), e8 6 (by decide) (by decide)]
    exact q4 i i0 i1
  · rw [ei _ (by omega), ei _ (by omega), e8 1 (by decide) (by decide), e8 3 (by decide) (by decide)]
    exact q5 i i0 i1
  · rw [ei _ (by omega), e8 2 (by decide) (by decide)]
    exact q6 i i0 i1
  · rw [zU_eq, e6]
  · rw [zU_ne (by omega), e7 5 (by decide), ← i2, ez 104 (by decide)]
  · unfold mI1
    rw [show zKp a 10 4 (10 + 1) = a 1 from e1, show zKp a 10 4 (10 + 2) = a 3 from e2, show zKp a 10 4 (10 + 3) = a 5 from e3, show zKp a 10 4 (10 + 4) = a 6 from e4, show zKp a 10 4 (10 + 5) = a 7 from e5, e0]
    refine ⟨fun i i0 i1 => ?_, ?_, fun i i0 i1 => ?_⟩
    · rw [← (q1 i i0 i1).1, ← (q5 i i0 i1).1, ← (q5 i i0 i1).2]
      rw [ej i i0 (by omega), show (200 : Int) + 36 + i = 200 + (36 + i) by omega, ej _ (by omega) (by omega), show (200 : Int) + 72 + i = 200 + (72 + i) by omega, ej _ (by omega) (by omega)]
      exact ⟨rfl, rfl, rfl⟩
    · rw [ej 192 (by decide) (by decide)]
      exact q3
    · have := q4 i i0 i1
      rw [show (200 : Int) + 144 + 2 * i + 1 = 200 + (144 + 2 * i + 1) by omega, ej _ (by omega) (by omega), show (200 : Int) + 144 + 2 * i = 200 + (144 + 2 * i) by omega, ej _ (by omega) (by omega)]
      exact this
theorem keepw_1 {a : zMm} (W : WF a) : WF (zKp a 20 5) := by
  have W0 := W
  obtain ⟨e0, e1, e2, e3, e4, e5, e6, e7, e8⟩ := zKp_at a 20 5 (Or.inr rfl)
  obtain ⟨w1, w2, w3, w4, w5, w6, w7, w8⟩ := W
  refine ⟨?_, ?_, ?_, ?_, ?_, ?_, ⟨by rw [e7 4 (by decide)]; exact w7.1, Or.inr e6, fun c => zWi_to (w7.2.2.1 (by rw [← e7 4 (by decide)]; exact c)) (fun o _ _ => e8 o (by omega) (by omega)), fun _ => zKp_W W0 (Or.inr rfl)⟩, fun k hk => ?_⟩
  · rw [e8 0 (by decide) (by decide), e8 1 (by decide) (by decide), e8 2 (by decide) (by decide), e8 3 (by decide) (by decide)]
    exact w1
  · rw [e8 4 (by decide) (by decide)]
    exact w2
  · rw [e8 4 (by decide) (by decide), e8 0 (by decide) (by decide)]
    exact w3
  · unfold zMW
    rw [e7 0 (by decide), e8 5 (by decide) (by decide), e8 6 (by decide) (by decide)]
    exact w4
  · rw [e7 1 (by decide), e8 8 (by decide) (by decide)]
    exact w5
  · rw [e7 2 (by decide), e7 3 (by decide)]
    exact w6
  · rw [e8 30 (by decide) (by decide), e8 31 (by decide) (by decide), e8 (32 + k) (by omega) (by omega)]
    exact w8 k hk
theorem keepc_1 {a h : zMm} (W : WF a) (C : CR a h) (n : Int) (hn : n = a 7 0) : CR (zKp a 20 5) (zU (zU (zCp (zCp (zCp (zCp (zCp h 11 59 36) 12 60 36) 14 62 36) 17 69 24) 18 70 24) 68 2 n) 71 1 1) := by
  obtain ⟨e0, e1, e2, e3, e4, e5, e6, e7, e8⟩ := zKp_at a 20 5 (Or.inr rfl)
  have hW := W.2.2.2.1
  have hz := hW.1
  obtain ⟨i1, i2, i3, i4⟩ := C.2.2.2.1
  obtain ⟨⟨q1, q2⟩, q3, q4⟩ := C.1
  obtain ⟨m1, m2⟩ := C.2.1
  refine C.image (fun o c1 c2 => e8 o c1 (by omega)) (fun i c1 c2 => e7 i (by omega)) (fun o ho => ?_) ⟨?_, ?_, fun c => cI1_to (i3 (by rw [← e7 4 (by decide)]; exact c)) (fun o _ _ => e8 o (by omega) (by omega)) ⟨by funext i; simp [zU, zCp], by funext i; simp [zU, zCp], by funext i; simp [zU, zCp], by funext i; simp [zU, zCp], by funext i; simp [zU, zCp], by funext i; simp [zU, zCp]⟩, fun _ => ?_⟩
  · rw [zU_off o (by omega), zU_off o (by omega), zCp_off o (by omega), zCp_off o (by omega), zCp_off o (by omega), zCp_off o (by omega), zCp_off o (by omega)]
  · rw [zU_ne (by omega), e7 4 (by decide), ← i1]
    simp [zU, zCp]
  · rw [zU_eq, e6]
  · unfold cI1
    rw [show zKp a 20 5 (20 + 1) = a 1 from e1, show zKp a 20 5 (20 + 2) = a 3 from e2, show zKp a 20 5 (20 + 3) = a 5 from e3, show zKp a 20 5 (20 + 4) = a 6 from e4, show zKp a 20 5 (20 + 5) = a 7 from e5, e0]
    refine ⟨fun i i0 i1 => ?_, ?_, fun i i0 i1 => ?_⟩
    · rw [← (q1 i i0 i1).1, ← (q3 i i0 i1).1, ← (q3 i i0 i1).2]
      refine ⟨?_, ?_, ?_⟩ <;> simp [zU, zCp, i0, i1]
    · rw [zU_off 68 (by decide), zU_eq]
      exact hn
    · rw [← (m2 i i0 i1).1, ← (m2 i i0 i1).2]
      have i2 : i < 24 := by omega
      refine ⟨?_, ?_⟩ <;> simp [zU, zCp, i0, i2]
theorem keepm_1 {a h : zMm} (W : WF a) (M : MR a h) (A : mA a h) : MR (zKp a 20 5) (zU (zKc h 400 200) 104 1 1) := by
  obtain ⟨e0, e1, e2, e3, e4, e5, e6, e7, e8⟩ := zKp_at a 20 5 (Or.inr rfl)
  have w7 := W.2.2.2.2.2.2.1
  have hW := W.2.2.2.1
  have hz := hW.1
  have on := mA.on M A
  obtain ⟨m1, m2, ⟨i1, i2, i3, i4⟩, m4, m5, m6⟩ := M
  obtain ⟨⟨q1, q2, q3, q4, q5⟩, q6⟩ := A
  have ez : ∀ o : Nat, o ≠ 92 → (zKc h 400 200) o = h o := by
    intro o ho
    funext i
    unfold zKc
    rw [if_neg (fun z => ho z.1)]
  have ey : ∀ o : Nat, o ≠ 92 → o ≠ 104 → (zU (zKc h 400 200) 104 1 1) o = h o := fun o c1 c2 => (zU_off o c2).trans (ez o c1)
  have e9 : (zU (zKc h 400 200) 104 1 1) 92 = (zKc h 400 200) 92 := zU_off 92 (by decide)
  have ei : ∀ i : Int, ¬ (400 ≤ i ∧ i < 400 + 200) → (zU (zKc h 400 200) 104 1 1) 92 i = h 92 i := by
    intro i hi
    rw [e9]
    unfold zKc
    rw [if_neg (fun z => hi z.2)]
  have ej : ∀ i : Int, 0 ≤ i → i < 200 → (zU (zKc h 400 200) 104 1 1) 92 (400 + i) = h 92 i := by
    intro i c1 c2
    rw [e9]
    unfold zKc
    rw [if_pos ⟨rfl, by omega, by omega⟩, show 400 + i - 400 = i by omega]
  refine ⟨Or.inl ⟨?_, ⟨fun i i0 i1 => ?_, fun r r0 r1 => ?_, ?_, fun i i0 i1 => ?_, fun i i0 i1 => ?_⟩, fun i i0 i1 => ?_⟩, m2.to (e7 1 (by decide)) (e8 8 (by decide) (by decide)) (congrFun (ey _ (by decide) (by decide)) 1) (ey _ (by decide) (by decide)), ⟨?_, ?_, fun c => mI1_to (i3 (by rw [← e7 4 (by decide)]; exact c)) (fun o _ _ => e8 o (by omega) (by omega)) (w7.2.2.1 (by rw [← e7 4 (by decide)]; exact c)).2.1 (fun i i0 i1 => by rw [ei i (by omega)]), fun _ => ?_⟩, m4.to (fun o _ _ => e8 o (by omega) (by omega)) (ey _ (by decide) (by decide)) (ey _ (by decide) (by decide)) (ey _ (by decide) (by decide)), m5.to (e7 2 (by decide)) (e7 3 (by decide)) (congrFun (ey _ (by decide) (by decide)) 2) (congrFun (ey _ (by decide) (by decide)) 50), m6.to (fun o _ _ => ey o (by omega) (by omega))⟩
  · rw [ey 81 (by decide) (by decide)]
    exact on
  · rw [ei i (by omega), e8 0 (by decide) (by decide)]
    exact q1 i i0 i1
  · rw [ey 88 (by decide) (by decide), e8 4 (by decide) (by decide)]
    exact q2 r r0 r1
  · rw [ei 192 (by omega), e7 0 (by decide)]
    exact q3
  · rw [e7 0 (by decide)] at i1
    rw [ei _ (by omega), ei _ (by omega), e8 5 (by decide) (by decide), e8 6 (by decide) (by decide)]
    exact q4 i i0 i1
  · rw [ei _ (by omega), ei _ (by omega), e8 1 (by decide) (by decide), e8 3 (by decide) (by decide)]
    exact q5 i i0 i1
  · rw [ei _ (by omega), e8 2 (by decide) (by decide)]
    exact q6 i i0 i1
  · rw [zU_ne (by omega), e7 4 (by decide), ← i1, ez 104 (by decide)]
  · rw [zU_eq, e6]
  · unfold mI1
    rw [show zKp a 20 5 (20 + 1) = a 1 from e1, show zKp a 20 5 (20 + 2) = a 3 from e2, show zKp a 20 5 (20 + 3) = a 5 from e3, show zKp a 20 5 (20 + 4) = a 6 from e4, show zKp a 20 5 (20 + 5) = a 7 from e5, e0]
    refine ⟨fun i i0 i1 => ?_, ?_, fun i i0 i1 => ?_⟩
    · rw [← (q1 i i0 i1).1, ← (q5 i i0 i1).1, ← (q5 i i0 i1).2]
      rw [ej i i0 (by omega), show (400 : Int) + 36 + i = 400 + (36 + i) by omega, ej _ (by omega) (by omega), show (400 : Int) + 72 + i = 400 + (72 + i) by omega, ej _ (by omega) (by omega)]
      exact ⟨rfl, rfl, rfl⟩
    · rw [ej 192 (by decide) (by decide)]
      exact q3
    · have := q4 i i0 i1
      rw [show (400 : Int) + 144 + 2 * i + 1 = 400 + (144 + 2 * i + 1) by omega, ej _ (by omega) (by omega), show (400 : Int) + 144 + 2 * i = 400 + (144 + 2 * i) by omega, ej _ (by omega) (by omega)]
      exact this
theorem wKeep {a : zMm} {k : Int} (W : WF a) : WF (aKeep a k) := by
  unfold aKeep
  split
  · exact keepw_0 W
  · split
    · exact keepw_1 W
    · exact W
theorem cKeep {a h : zMm} {v1 : Int} {K : Int → zMm → Prop} (W : WF a) (C : CR a h) (r1 : zR v1) (hK : ∀ h', CR (aKeep a v1) h' → zHi81 h h' → K (fKeep a v1) h') : zCi mX11_keep [.ref 0, .int (zI v1)] zS0 h K := by
  unfold aKeep fKeep at hK
  obtain ⟨j1, j2⟩ := W.im
  refine wX11_keep (sX11_isWithin r1 (by decide) (by decide) ?_)
  simp only [decide_eq_true_eq, decide_eq_false_iff_not]
  refine ⟨fun c => ?_, fun c => ?_⟩
  · have hi : ∀ h' : zMm, (∀ o : Nat, 81 ≤ o → h' o = h o) → zHi81 h h' := fun h' z => z
    rcases (show v1 = 0 ∨ v1 = 1 by omega) with e | e
    · subst e
      rw [if_pos rfl, if_pos rfl] at hK
      refine ⟨by decide, wX3_takeCells g0_52 g0_10 (wX5_takeAll m0_65 m0_16 ?_)⟩
      rw [show h 71 0 = a 7 4 from C.2.2.2.1.1, bI_im j1]
      exact ⟨⟨by omega, by omega⟩, hK _ (keepc_0 W C _ ((show _ = h 16 2 by simp [zCp]).trans C.2.1.1)) (hi _ (fun o ho => by rw [zU_off o (by omega), zU_off o (by omega), zCp_off o (by omega), zCp_off o (by omega), zCp_off o (by omega), zCp_off o (by omega), zCp_off o (by omega)]))⟩
    · subst e
      rw [if_neg (by decide), if_pos rfl, if_neg (by decide), if_pos rfl] at hK
      refine ⟨by decide, wX3_takeCells g0_58 g0_10 (wX5_takeAll m0_68 m0_16 ?_)⟩
      rw [show h 71 1 = a 7 5 from C.2.2.2.1.2.1, bI_im j2]
      exact ⟨⟨by omega, by omega⟩, hK _ (keepc_1 W C _ ((show _ = h 16 2 by simp [zCp]).trans C.2.1.1)) (hi _ (fun o ho => by rw [zU_off o (by omega), zU_off o (by omega), zCp_off o (by omega), zCp_off o (by omega), zCp_off o (by omega), zCp_off o (by omega), zCp_off o (by omega)]))⟩
  · rw [if_neg (by omega), if_neg (by omega), if_neg (by omega), if_neg (by omega)] at hK
    exact hK h C (fun _ _ => rfl)
theorem mKeep {a h : zMm} {v1 : Int} {K : Int → zMm → Prop} (W : WF a) (M : MR a h) (r1 : zR v1) (hK : ∀ h', MR (aKeep a v1) h' → zLo81 h h' → K (fKeep a v1) h') : zCi mX12_keep [.ref 81, .int (zI v1)] zS0 h K := by
  unfold aKeep fKeep at hK
  obtain ⟨j1, j2⟩ := W.im
  refine wX12_keep (sX12_awake M ?_)
  intro h1 M1 A1 L1
  refine ⟨r1, sX12_in r1 (by decide) (by decide) ?_⟩
  simp only [decide_eq_true_eq, decide_eq_false_iff_not]
  refine ⟨fun c => ?_, fun c => ?_⟩
  · have e4 : h1 104 0 = a 7 4 := M1.2.2.1.1
    have e5 : h1 104 1 = a 7 5 := M1.2.2.1.2.1
    have e0 : ∀ p : Int, zKc h1 p 0 = h1 := by
      intro p
      funext o i
      unfold zKc
      rw [if_neg (by omega)]
    have lo : ∀ (p k : Int), zLo81 h (zU (zKc h1 p 200) 104 k 1) := by
      intro p k
      refine L1.trans (fun o ho => ?_)
      rw [zU_off o (by omega)]
      funext i
      unfold zKc
      rw [if_neg (fun z => absurd z.1 (by omega))]
    rcases (show v1 = 0 ∨ v1 = 1 by omega) with e | e
    · subst e
      rw [if_pos rfl, if_pos rfl] at hK
      have key := keep_in (h := h1) (v1 := 0) (K := K) (by decide) (by rw [e4]; exact j1) (by rw [e4]; exact hK _ (keepm_0 W M1 A1) (lo _ _)) 200 0 (by decide) (by decide)
      rw [e0] at key
      exact key
    · subst e
      rw [if_neg (by decide), if_pos rfl, if_neg (by decide), if_pos rfl] at hK
      have key := keep_in (h := h1) (v1 := 1) (K := K) (by decide) (by rw [e5]; exact j2) (by rw [e5]; exact hK _ (keepm_1 W M1 A1) (lo _ _)) 200 0 (by decide) (by decide)
      rw [e0] at key
      exact key
  · rw [if_neg (by omega), if_neg (by omega), if_neg (by omega), if_neg (by omega)] at hK
    exact hK h1 M1 L1
