/-! LEAST: its steps -/
theorem lFw_ok {Kd R : Int → Int} (hR : zRu R) {m c l : Int} (hm : ¬ m = lAll Kd) (hf : lM Kd R m c l < 1000000) : (0 ≤ lFw Kd R m c l ∧ lFw Kd R m c l ≤ 3) ∧ 0 ≤ zNx Kd c (lFw Kd R m c l) ∧ lCo Kd R c l (lFw Kd R m c l) + lM Kd R (iO m (lBt Kd (zNx Kd c (lFw Kd R m c l)))) (zNx Kd c (lFw Kd R m c l)) (lFw Kd R m c l) = lM Kd R m c l ∧ ∀ w : Int, 0 ≤ w → w < lFw Kd R m c l → ¬ (0 ≤ zNx Kd c w ∧ lCo Kd R c l w + lM Kd R (iO m (lBt Kd (zNx Kd c w))) (zNx Kd c w) w = lM Kd R m c l) := by
  have at0 : ∀ w : Int, (0 ≤ zNx Kd c w ∧ lAt Kd R (lM Kd R) m c l w = lM Kd R m c l) ↔ (0 ≤ zNx Kd c w ∧ lCo Kd R c l w + lM Kd R (iO m (lBt Kd (zNx Kd c w))) (zNx Kd c w) w = lM Kd R m c l) := by
    intro w
    constructor
    · intro z; rw [lAt_o z.1] at z; exact z
    · intro z; rw [lAt_o z.1]; exact z
  obtain ⟨way, hw, ho, e⟩ : ∃ way : Int, (0 ≤ way ∧ way ≤ 3) ∧ 0 ≤ zNx Kd c way ∧ lM Kd R m c l = lCo Kd R c l way + lM Kd R (iO m (lBt Kd (zNx Kd c way))) (zNx Kd c way) way := by
    rcases lM_at hR (c := c) (l := l) hm with e | e
    · omega
    · exact e
  have g := (at0 way).mpr ⟨ho, e.symm⟩
  have k0 := at0 0
  have k1 := at0 1
  have k2 := at0 2
  have k3 := at0 3
  have fin : ∀ v : Int, (0 ≤ v ∧ v ≤ 3) → (0 ≤ zNx Kd c v ∧ lAt Kd R (lM Kd R) m c l v = lM Kd R m c l) → (∀ w : Int, 0 ≤ w → w < v → ¬ (0 ≤ zNx Kd c w ∧ lAt Kd R (lM Kd R) m c l w = lM Kd R m c l)) → lFw Kd R m c l = v → (0 ≤ lFw Kd R m c l ∧ lFw Kd R m c l ≤ 3) ∧ 0 ≤ zNx Kd c (lFw Kd R m c l) ∧ lCo Kd R c l (lFw Kd R m c l) + lM Kd R (iO m (lBt Kd (zNx Kd c (lFw Kd R m c l)))) (zNx Kd c (lFw Kd R m c l)) (lFw Kd R m c l) = lM Kd R m c l ∧ ∀ w : Int, 0 ≤ w → w < lFw Kd R m c l → ¬ (0 ≤ zNx Kd c w ∧ lCo Kd R c l w + lM Kd R (iO m (lBt Kd (zNx Kd c w))) (zNx Kd c w) w = lM Kd R m c l) := by
    intro v hv h1 h2 ev
    rw [ev]
    exact ⟨hv, h1.1, ((at0 v).mp h1).2, fun w w0 w1 z => h2 w w0 w1 ((at0 w).mpr z)⟩
  by_cases c0 : 0 ≤ zNx Kd c 0 ∧ lAt Kd R (lM Kd R) m c l 0 = lM Kd R m c l
  · exact fin 0 (by decide) c0 (fun w w0 w1 => absurd w1 (by omega)) (by unfold lFw; rw [if_pos c0])
  · by_cases c1 : 0 ≤ zNx Kd c 1 ∧ lAt Kd R (lM Kd R) m c l 1 = lM Kd R m c l
    · exact fin 1 (by decide) c1 (fun w w0 w1 => by rw [show w = 0 by omega]; exact c0) (by unfold lFw; rw [if_neg c0, if_pos c1])
    · by_cases c2 : 0 ≤ zNx Kd c 2 ∧ lAt Kd R (lM Kd R) m c l 2 = lM Kd R m c l
      · exact fin 2 (by decide) c2 (fun w w0 w1 => by rcases (show w = 0 ∨ w = 1 by omega) with rfl | rfl <;> assumption) (by unfold lFw; rw [if_neg c0, if_neg c1, if_pos c2])
      · have c3 : 0 ≤ zNx Kd c 3 ∧ lAt Kd R (lM Kd R) m c l 3 = lM Kd R m c l := by
          rcases (show way = 0 ∨ way = 1 ∨ way = 2 ∨ way = 3 by omega) with rfl | rfl | rfl | rfl
          · exact absurd g c0
          · exact absurd g c1
          · exact absurd g c2
          · exact g
        exact fin 3 (by decide) c3 (fun w w0 w1 => by rcases (show w = 0 ∨ w = 1 ∨ w = 2 by omega) with rfl | rfl | rfl <;> assumption) (by unfold lFw; rw [if_neg c0, if_neg c1, if_neg c2, if_pos c3])
def sM (Kd R : Int → Int) (s : Nat) : Int := (lSt Kd R s).1
def sC (Kd R : Int → Int) (s : Nat) : Int := (lSt Kd R s).2.1
def sL (Kd R : Int → Int) (s : Nat) : Int := (lSt Kd R s).2.2.1
def sQ (Kd R : Int → Int) (s : Nat) : Int := (lSt Kd R s).2.2.2
theorem sS_all {Kd R : Int → Int} {s : Nat} (h : sM Kd R s = lAll Kd) : lSt Kd R (s + 1) = lSt Kd R s := if_pos h
theorem sS_no {Kd R : Int → Int} {s : Nat} (h : ¬ sM Kd R s = lAll Kd) : sM Kd R (s + 1) = iO (sM Kd R s) (lBt Kd (zNx Kd (sC Kd R s) (lWy Kd R s))) ∧ sC Kd R (s + 1) = zNx Kd (sC Kd R s) (lWy Kd R s) ∧ sL Kd R (s + 1) = lWy Kd R s ∧ sQ Kd R (s + 1) = sQ Kd R s + zQ (sL Kd R s) (lWy Kd R s) := by
  have e : lSt Kd R (s + 1) = (iO (lSt Kd R s).1 (lBt Kd (zNx Kd (lSt Kd R s).2.1 (lFw Kd R (lSt Kd R s).1 (lSt Kd R s).2.1 (lSt Kd R s).2.2.1))), zNx Kd (lSt Kd R s).2.1 (lFw Kd R (lSt Kd R s).1 (lSt Kd R s).2.1 (lSt Kd R s).2.2.1), lFw Kd R (lSt Kd R s).1 (lSt Kd R s).2.1 (lSt Kd R s).2.2.1, (lSt Kd R s).2.2.2 + zQ (lSt Kd R s).2.2.1 (lFw Kd R (lSt Kd R s).1 (lSt Kd R s).2.1 (lSt Kd R s).2.2.1)) := if_neg h
  unfold sM sC sL sQ lWy
  rw [e]
  exact ⟨rfl, rfl, rfl, rfl⟩
/-- what holds at each step -/
theorem sS_ok {Kd R : Int → Int} (hR : zRu R) (hG : lRk Kd 36 ≤ 7) (h0 : ¬ Kd (R 0) = 2) (hf : lMin Kd R < 1000000) : ∀ s : Nat, lDo Kd (sM Kd R s) (sC Kd R s) (sL Kd R s) ∧ lM Kd R (sM Kd R s) (sC Kd R s) (sL Kd R s) < 1000000 := by
  have hr0 : 0 ≤ R 0 ∧ R 0 < 36 := ⟨hR.1.1, by have := hR.1.2; omega⟩
  intro s
  induction s with
  | zero => exact ⟨⟨nb Kd (R 0), lBt_n hr0 hG, nb_le hr0, ⟨hr0.1, hr0.2, h0⟩, (by decide : (0 : Int) ≤ 0 ∧ (0 : Int) ≤ 3), Nat.or_self _⟩, hf⟩
  | succ s ih =>
    by_cases hm : sM Kd R s = lAll Kd
    · have e := sS_all hm
      unfold sM sC sL at ih ⊢
      rw [e]
      exact ih
    · obtain ⟨f1, f2, f3, f4⟩ := lFw_ok hR hm ih.2
      obtain ⟨e1, e2, e3, -⟩ := sS_no hm
      rw [e1, e2, e3]
      refine ⟨ih.1.m.step hG f1 f2, ?_⟩
      have hc := lCo_R (Kd := Kd) hR (sC Kd R s) (sL Kd R s) (lWy Kd R s)
      have f3' : lCo Kd R (sC Kd R s) (sL Kd R s) (lWy Kd R s) + lM Kd R (iO (sM Kd R s) (lBt Kd (zNx Kd (sC Kd R s) (lWy Kd R s)))) (zNx Kd (sC Kd R s) (lWy Kd R s)) (lWy Kd R s) = lM Kd R (sM Kd R s) (sC Kd R s) (sL Kd R s) := f3
      omega
theorem sS_way {Kd R : Int → Int} (hR : zRu R) (hG : lRk Kd 36 ≤ 7) (h0 : ¬ Kd (R 0) = 2) (hf : lMin Kd R < 1000000) {s : Nat} (hm : ¬ sM Kd R s = lAll Kd) : (0 ≤ lWy Kd R s ∧ lWy Kd R s ≤ 3) ∧ 0 ≤ zNx Kd (sC Kd R s) (lWy Kd R s) ∧ lCo Kd R (sC Kd R s) (sL Kd R s) (lWy Kd R s) + lM Kd R (sM Kd R (s + 1)) (sC Kd R (s + 1)) (sL Kd R (s + 1)) = lM Kd R (sM Kd R s) (sC Kd R s) (sL Kd R s) := by
  have ih := sS_ok hR hG h0 hf s
  obtain ⟨f1, f2, f3, f4⟩ := lFw_ok hR hm ih.2
  obtain ⟨e1, e2, e3, -⟩ := sS_no hm
  rw [e1, e2, e3]
  exact ⟨f1, f2, f3⟩
theorem sS_sum {Kd R : Int → Int} (hR : zRu R) (hG : lRk Kd 36 ≤ 7) (h0 : ¬ Kd (R 0) = 2) (hf : lMin Kd R < 1000000) (i : Nat) : ∀ k : Nat, (∀ s : Nat, s < i + k → ¬ sM Kd R s = lAll Kd) → (k : Int) + zQ (sL Kd R i) (sL Kd R (i + k)) * R 1 + lM Kd R (sM Kd R (i + k)) (sC Kd R (i + k)) (sL Kd R (i + k)) ≤ lM Kd R (sM Kd R i) (sC Kd R i) (sL Kd R i) := by
  intro k
  induction k with
  | zero =>
    intro _
    have : zQ (sL Kd R i) (sL Kd R i) = 0 := by unfold zQ; rw [Int.sub_self]; rfl
    show ((0 : Nat) : Int) + zQ (sL Kd R i) (sL Kd R i) * R 1 + _ ≤ _
    rw [this, Int.zero_mul]
    show ((0 : Nat) : Int) + 0 + lM Kd R (sM Kd R i) (sC Kd R i) (sL Kd R i) ≤ _
    omega
  | succ k ih =>
    intro hs
    have q := ih (fun s h => hs s (by omega))
    have hm := hs (i + k) (by omega)
    obtain ⟨w1, w2, w3⟩ := sS_way hR hG h0 hf hm
    obtain ⟨-, -, e3, -⟩ := sS_no hm
    have t := Int.mul_le_mul_of_nonneg_right (zQ_tri (sL Kd R i) (sL Kd R (i + k)) (sL Kd R (i + k + 1))) hR.2.1.1
    rw [Int.add_mul] at t
    have hc : zQ (sL Kd R (i + k)) (sL Kd R (i + k + 1)) * R 1 + 1 ≤ lCo Kd R (sC Kd R (i + k)) (sL Kd R (i + k)) (lWy Kd R (i + k)) := by
      have := zMn_R (Kd := Kd) hR (lWy Kd R (i + k)) (zNx Kd (sC Kd R (i + k)) (lWy Kd R (i + k)))
      rw [e3]
      unfold lCo
      omega
    show ((k + 1 : Nat) : Int) + zQ (sL Kd R i) (sL Kd R (i + k + 1)) * R 1 + lM Kd R (sM Kd R (i + k + 1)) (sC Kd R (i + k + 1)) (sL Kd R (i + k + 1)) ≤ _
    omega
theorem sS_ne {Kd R : Int → Int} (hR : zRu R) (hG : lRk Kd 36 ≤ 7) (h0 : ¬ Kd (R 0) = 2) (hf : lMin Kd R < 1000000) {i k : Nat} (hk : 0 < k) (hs : ∀ s : Nat, s < i + k → ¬ sM Kd R s = lAll Kd) (em : sM Kd R (i + k) = sM Kd R i) (ec : sC Kd R (i + k) = sC Kd R i) : False := by
  have q := sS_sum hR hG h0 hf i k hs
  have t := lM_turn (Kd := Kd) hR (sM Kd R i) (sC Kd R i) (sL Kd R i) (sL Kd R (i + k))
  rw [em, ec] at q
  omega
/-! how many bits -/
def nPop (x : Nat) : Nat := x % 2 + x / 2 % 2 + x / 4 % 2 + x / 8 % 2 + x / 16 % 2 + x / 32 % 2 + x / 64 % 2
theorem nPop_b : ∀ r : Nat, r < 7 → ∀ x : Nat, x < 128 → nPop x ≤ nPop (x ||| 2 ^ r) ∧ (nPop x = nPop (x ||| 2 ^ r) → x = x ||| 2 ^ r) := by decide +kernel
theorem nPop_7 {x : Nat} (hx : x < 127) : nPop x < 7 := by
  have : ∀ x : Nat, x < 127 → nPop x < 7 := by decide +kernel
  exact this x hx
theorem pigeon : ∀ (n : Nat) (f : Nat → Nat), (∀ i : Nat, i ≤ n → f i < n) → ∃ i j : Nat, i < j ∧ j ≤ n ∧ f i = f j := by
  intro n
  induction n with
  | zero => intro f h; exact absurd (h 0 (Nat.le_refl _)) (by omega)
  | succ n ih =>
    intro f h
    by_cases hv : f (n + 1) = n
    · by_cases hx : ∃ i : Nat, i ≤ n ∧ f i = n
      · obtain ⟨i, hi, e⟩ := hx
        exact ⟨i, n + 1, by omega, Nat.le_refl _, by omega⟩
      · obtain ⟨i, j, h1, h2, h3⟩ := ih f (fun i hi => by
          have := h i (by omega)
          have : ¬ f i = n := fun z => hx ⟨i, hi, z⟩
          omega)
        exact ⟨i, j, h1, by omega, h3⟩
    · have hv2 := h (n + 1) (Nat.le_refl _)
      obtain ⟨i, j, h1, h2, h3⟩ := ih (fun i => if f i = n then f (n + 1) else f i) (fun i hi => by
        have := h i (by omega)
        show (if f i = n then f (n + 1) else f i) < n
        split <;> omega)
      have h3 : (if f i = n then f (n + 1) else f i) = (if f j = n then f (n + 1) else f j) := h3
      by_cases ci : f i = n
      · by_cases cj : f j = n
        · exact ⟨i, j, h1, by omega, by omega⟩
        · rw [if_pos ci, if_neg cj] at h3
          exact ⟨j, n + 1, by omega, Nat.le_refl _, h3.symm⟩
      · by_cases cj : f j = n
        · rw [if_neg ci, if_pos cj] at h3
          exact ⟨i, n + 1, by omega, Nat.le_refl _, h3⟩
        · rw [if_neg ci, if_neg cj] at h3
          exact ⟨i, j, h1, by omega, h3⟩
theorem sS_pop {Kd R : Int → Int} (hR : zRu R) (hG : lRk Kd 36 ≤ 7) (h0 : ¬ Kd (R 0) = 2) (hf : lMin Kd R < 1000000) (i : Nat) : ∀ k : Nat, nPop (sM Kd R i).toNat ≤ nPop (sM Kd R (i + k)).toNat ∧ (nPop (sM Kd R i).toNat = nPop (sM Kd R (i + k)).toNat → sM Kd R i = sM Kd R (i + k)) := by
  intro k
  induction k with
  | zero => exact ⟨Nat.le_refl _, fun _ => rfl⟩
  | succ k ih =>
    by_cases hm : sM Kd R (i + k) = lAll Kd
    · have e : sM Kd R (i + (k + 1)) = sM Kd R (i + k) := by
        show (lSt Kd R (i + k + 1)).1 = _
        rw [sS_all hm]
        rfl
      rw [e]
      exact ih
    · obtain ⟨e1, -, -, -⟩ := sS_no hm
      obtain ⟨w1, w2, w3⟩ := sS_way hR hG h0 hf hm
      obtain ⟨d, e, d2, d3, -⟩ := (sS_ok hR hG h0 hf (i + k)).1
      have hA := nA_le hG
      rcases zNx_R (Kd := Kd) (way := lWy Kd R (i + k)) (show 0 ≤ sC Kd R (i + k) ∧ sC Kd R (i + k) < 36 from ⟨d3.1, d3.2.1⟩) with z | ⟨q1, q2, q3⟩
      · omega
      · have hb := nA_bt hG d2 (c := zNx Kd (sC Kd R (i + k)) (lWy Kd R (i + k))) ⟨q1, q2⟩
        rw [e] at ih e1
        rw [hb] at e1
        show _ ≤ nPop (sM Kd R (i + k + 1)).toNat ∧ (_ = nPop (sM Kd R (i + k + 1)).toNat → _ = sM Kd R (i + k + 1))
        rw [e1]
        rw [Int.toNat_natCast] at ih ⊢
        have key : nPop d ≤ nPop (d ||| nb Kd (zNx Kd (sC Kd R (i + k)) (lWy Kd R (i + k)))) ∧ (nPop d = nPop (d ||| nb Kd (zNx Kd (sC Kd R (i + k)) (lWy Kd R (i + k)))) → d = d ||| nb Kd (zNx Kd (sC Kd R (i + k)) (lWy Kd R (i + k)))) := by
          by_cases hk : Kd (zNx Kd (sC Kd R (i + k)) (lWy Kd R (i + k))) ≤ 1
          · have h1 := lRk_R Kd (zNx Kd (sC Kd R (i + k)) (lWy Kd R (i + k))).toNat
            have h2 := lRk_lt (Kd := Kd) ⟨q1, q2⟩ hk (N := 36) q2
            unfold nb
            rw [if_pos hk]
            exact nPop_b _ (by omega) d (by omega)
          · unfold nb
            rw [if_neg hk, Nat.or_zero]
            exact ⟨Nat.le_refl _, fun _ => rfl⟩
        refine ⟨by omega, fun z => ?_⟩
        have z1 : nPop (sM Kd R i).toNat = nPop d := by omega
        rw [ih.2 z1, ← key.2 (by omega)]
theorem sS_end {Kd R : Int → Int} (hR : zRu R) (hG : lRk Kd 36 ≤ 7) (h0 : ¬ Kd (R 0) = 2) (hf : lMin Kd R < 1000000) : ∃ s : Nat, s ≤ 252 ∧ sM Kd R s = lAll Kd := by
  refine Classical.byContradiction (fun hn => ?_)
  have hs : ∀ s : Nat, s ≤ 252 → ¬ sM Kd R s = lAll Kd := fun s h z => hn ⟨s, h, z⟩
  have hA := nA_le hG
  have cr : ∀ s : Nat, (0 ≤ sC Kd R s ∧ sC Kd R s < 36) ∧ ∃ d : Nat, sM Kd R s = (d : Int) ∧ d ≤ nA Kd := fun s => by
    obtain ⟨d, e, d2, d3, -⟩ := (sS_ok hR hG h0 hf s).1
    exact ⟨⟨d3.1, d3.2.1⟩, d, e, d2⟩
  obtain ⟨i, j, h1, h2, h3⟩ := pigeon 252 (fun s => 36 * nPop (sM Kd R s).toNat + (sC Kd R s).toNat) (fun s h => by
    obtain ⟨q1, d, e, d2⟩ := cr s
    have hne := hs s h
    rw [e, lAll_n hG] at hne
    have := nPop_7 (x := d) (by omega)
    show 36 * nPop (sM Kd R s).toNat + (sC Kd R s).toNat < 252
    rw [e, Int.toNat_natCast]
    omega)
  have h3 : 36 * nPop (sM Kd R i).toNat + (sC Kd R i).toNat = 36 * nPop (sM Kd R j).toNat + (sC Kd R j).toNat := h3
  have ci := (cr i).1
  have cj := (cr j).1
  obtain ⟨k, rfl⟩ : ∃ k, j = i + k := ⟨j - i, by omega⟩
  have p := sS_pop hR hG h0 hf i k
  exact sS_ne hR hG h0 hf (show 0 < k by omega) (fun s h => hs s (by omega)) (p.2 (by omega)).symm (by omega)
theorem lLn_ok {Kd R : Int → Int} : ∀ (n s : Nat), (∃ t : Nat, s ≤ t ∧ t ≤ s + n ∧ sM Kd R t = lAll Kd) → s ≤ lLn Kd R n s ∧ lLn Kd R n s ≤ s + n ∧ sM Kd R (lLn Kd R n s) = lAll Kd ∧ ∀ t : Nat, s ≤ t → t < lLn Kd R n s → ¬ sM Kd R t = lAll Kd := by
  intro n
  induction n with
  | zero =>
    intro s h
    obtain ⟨t, h1, h2, h3⟩ := h
    obtain rfl : t = s := by omega
    exact ⟨Nat.le_refl _, Nat.le_refl _, h3, fun q q0 q1 => absurd q1 (by show ¬ q < t; omega)⟩
  | succ n ih =>
    intro s h
    by_cases c : sM Kd R s = lAll Kd
    · have e : lLn Kd R (n + 1) s = s := if_pos c
      rw [e]
      exact ⟨Nat.le_refl _, by omega, c, fun q q0 q1 => absurd q1 (by omega)⟩
    · have e : lLn Kd R (n + 1) s = lLn Kd R n (s + 1) := if_neg c
      rw [e]
      obtain ⟨t, h1, h2, h3⟩ := h
      obtain ⟨g1, g2, g3, g4⟩ := ih (s + 1) ⟨t, by
        by_cases z : t = s
        · rw [z] at h3; exact absurd h3 c
        · omega, by omega, h3⟩
      refine ⟨by omega, by omega, g3, fun q q0 q1 => ?_⟩
      by_cases z : q = s
      · rw [z]; exact c
      · exact g4 q (by omega) q1
theorem lLen_ok {Kd R : Int → Int} (hR : zRu R) (hG : lRk Kd 36 ≤ 7) (h0 : ¬ Kd (R 0) = 2) (hf : lMin Kd R < 1000000) : lLen Kd R ≤ 252 ∧ sM Kd R (lLen Kd R) = lAll Kd ∧ ∀ t : Nat, t < lLen Kd R → ¬ sM Kd R t = lAll Kd := by
  obtain ⟨s, h1, h2⟩ := sS_end hR hG h0 hf
  obtain ⟨-, g2, g3, g4⟩ := lLn_ok (Kd := Kd) (R := R) 252 0 ⟨s, Nat.zero_le _, by omega, h2⟩
  exact ⟨by unfold lLen; omega, g3, fun t ht => g4 t (Nat.zero_le _) ht⟩
