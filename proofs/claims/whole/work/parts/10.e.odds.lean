/-! BY CHANCE -/
def sA (f : Int → Int) (i x : Int) : Int → Int := fun c => if c = i then f c + x else f c
theorem zSm_sA {f : Int → Int} {i x : Int} : ∀ n : Nat, zSm (sA f i x) n = if 0 ≤ i ∧ i < n then zSm f n + x else zSm f n := by
  intro n
  induction n with
  | zero => rw [if_neg (by omega)]; rfl
  | succ n ih =>
    show zSm (sA f i x) n + (if (n : Int) = i then f (n : Int) + x else f (n : Int)) = if 0 ≤ i ∧ i < ((n + 1 : Nat) : Int) then zSm f n + f (n : Int) + x else zSm f n + f (n : Int)
    rw [ih]
    by_cases c : (n : Int) = i
    · rw [if_neg (by omega), if_pos c, if_pos (by omega)]
      omega
    · rw [if_neg c]
      by_cases d : 0 ≤ i ∧ i < n
      · rw [if_pos d, if_pos (by omega)]
        omega
      · rw [if_neg d, if_neg (by omega)]
def pTo (Kd : Int → Int) (goal k : Int) : Int := if k / 4 = goal then goal else zNx Kd (k / 4) (k % 4)
def pOn (Kd : Int → Int) (goal k x : Int) (f : Int → Int) : Int → Int :=
  if pTo Kd goal k = -4 then sA (sA (sA (sA f (k - k % 4) x) (k - k % 4 + 1) x) (k - k % 4 + 2) x) (k - k % 4 + 3) x
  else sA (sA (sA (sA f (4 * pTo Kd goal k + k % 4) x) (4 * pTo Kd goal k + k % 4) x) (4 * pTo Kd goal k + k % 4) x) (4 * pTo Kd goal k + k % 4) x
theorem pOn_at (Kd : Int → Int) (goal k x : Int) (f : Int → Int) (i : Int) : pOn Kd goal k x f i = if pTo Kd goal k = -4 then (if k - k % 4 ≤ i ∧ i < k - k % 4 + 4 then f i + x else f i) else (if i = 4 * pTo Kd goal k + k % 4 then f i + 4 * x else f i) := by
  unfold pOn
  by_cases c : pTo Kd goal k = -4
  · rw [if_pos c, if_pos c]
    unfold sA
    (repeat' split) <;> omega
  · rw [if_neg c, if_neg c]
    unfold sA
    (repeat' split) <;> omega
def pD (Kd : Int → Int) (goal : Int) (p : Int → Int) : Nat → Int → Int
  | 0 => fun _ => 0
  | k + 1 => pOn Kd goal (k : Int) (p (k : Int)) (pD Kd goal p k)
def pIt (Kd : Int → Int) (goal : Int) : Nat → (Int → Int) → Int → Int
  | 0, p => p
  | n + 1, p => pIt Kd goal n (pD Kd goal p 144)
def p0 (s : Int) : Int → Int := fun i => if i = s then 1 else 0
theorem pTo_R {Kd : Int → Int} {goal k : Int} (hg : 0 ≤ goal ∧ goal < 36) (hk : 0 ≤ k ∧ k < 144) : pTo Kd goal k = -4 ∨ (0 ≤ pTo Kd goal k ∧ pTo Kd goal k < 36) := by
  unfold pTo
  split
  · exact Or.inr hg
  · rcases zNx_R (Kd := Kd) (c := k / 4) (way := k % 4) (by omega) with z | z <;> omega
theorem pD_0 {Kd : Int → Int} {goal : Int} {p : Int → Int} (hp : ∀ i, 0 ≤ p i) : ∀ (k : Nat) (i : Int), 0 ≤ pD Kd goal p k i := by
  intro k
  induction k with
  | zero => intro i; show (0 : Int) ≤ 0; decide
  | succ k ih =>
    intro i
    show 0 ≤ pOn Kd goal (k : Int) (p (k : Int)) (pD Kd goal p k) i
    have h1 := ih i
    have h2 := hp (k : Int)
    rw [pOn_at]
    (repeat' split) <;> omega
theorem pD_sm {Kd : Int → Int} {goal : Int} {p : Int → Int} (hg : 0 ≤ goal ∧ goal < 36) : ∀ k : Nat, k ≤ 144 → zSm (pD Kd goal p k) 144 = 4 * zSm p k := by
  intro k
  induction k with
  | zero =>
    intro _
    have : ∀ n : Nat, zSm (pD Kd goal p 0) n = 0 := by
      intro n
      induction n with
      | zero => rfl
      | succ n ih => show zSm (pD Kd goal p 0) n + 0 = 0; rw [ih]; rfl
    rw [this]
    rfl
  | succ k ih =>
    intro hk
    have ih := ih (by omega)
    have hr := pTo_R (Kd := Kd) hg (k := (k : Int)) ⟨by omega, by omega⟩
    show zSm (pOn Kd goal (k : Int) (p (k : Int)) (pD Kd goal p k)) 144 = 4 * (zSm p k + p (k : Int))
    unfold pOn
    split
    · rw [zSm_sA, zSm_sA, zSm_sA, zSm_sA, if_pos (by omega), if_pos (by omega), if_pos (by omega), if_pos (by omega)]
      omega
    · rw [zSm_sA, zSm_sA, zSm_sA, zSm_sA, if_pos (by omega), if_pos (by omega), if_pos (by omega), if_pos (by omega)]
      omega
theorem zSm_le {f : Int → Int} (hf : ∀ i, 0 ≤ f i) : ∀ (n : Nat) (i : Int), 0 ≤ i → i < n → 0 ≤ zSm f n ∧ f i ≤ zSm f n := by
  intro n
  induction n with
  | zero => intro i i0 i1; omega
  | succ n ih =>
    intro i i0 i1
    have h0 := hf (n : Int)
    have pos : 0 ≤ zSm f n := by
      cases n with
      | zero => exact Int.le_refl _
      | succ m => exact (ih 0 (by decide) (by omega)).1
    show 0 ≤ zSm f n + f (n : Int) ∧ f i ≤ zSm f n + f (n : Int)
    by_cases c : i = (n : Int)
    · rw [c]; omega
    · have := (ih i i0 (by omega)).2
      omega
theorem zSm_mo {f g : Int → Int} (h : ∀ i, f i ≤ g i) : ∀ n : Nat, zSm f n ≤ zSm g n := by
  intro n
  induction n with
  | zero => exact Int.le_refl _
  | succ n ih =>
    have := h (n : Int)
    show zSm f n + f (n : Int) ≤ zSm g n + g (n : Int)
    omega
def gG (p : Int → Int) (g : Int) : Int := p (4 * g) + p (4 * g + 1) + p (4 * g + 2) + p (4 * g + 3)
theorem zSm_g {p : Int → Int} {g : Int} (hg : 0 ≤ g) : ∀ m : Nat, zSm (fun j => if j / 4 = g then p j else 0) (4 * m) = if g < m then gG p g else 0 := by
  intro m
  induction m with
  | zero => rw [if_neg (by omega)]; rfl
  | succ m ih =>
    rw [show 4 * (m + 1) = 4 * m + 1 + 1 + 1 + 1 by omega]
    show zSm (fun j => if j / 4 = g then p j else 0) (4 * m) + (if ((4 * m : Nat) : Int) / 4 = g then p ((4 * m : Nat) : Int) else 0) + (if ((4 * m + 1 : Nat) : Int) / 4 = g then p ((4 * m + 1 : Nat) : Int) else 0) + (if ((4 * m + 1 + 1 : Nat) : Int) / 4 = g then p ((4 * m + 1 + 1 : Nat) : Int) else 0) + (if ((4 * m + 1 + 1 + 1 : Nat) : Int) / 4 = g then p ((4 * m + 1 + 1 + 1 : Nat) : Int) else 0) = _
    rw [ih, show ((4 * m : Nat) : Int) / 4 = (m : Int) by omega, show ((4 * m + 1 : Nat) : Int) / 4 = (m : Int) by omega, show ((4 * m + 1 + 1 : Nat) : Int) / 4 = (m : Int) by omega, show ((4 * m + 1 + 1 + 1 : Nat) : Int) / 4 = (m : Int) by omega]
    by_cases c : (m : Int) = g
    · rw [if_neg (by omega), if_pos c, if_pos c, if_pos c, if_pos c, if_pos (by omega)]
      unfold gG
      rw [show ((4 * m : Nat) : Int) = 4 * g by omega, show ((4 * m + 1 : Nat) : Int) = 4 * g + 1 by omega, show ((4 * m + 1 + 1 : Nat) : Int) = 4 * g + 2 by omega, show ((4 * m + 1 + 1 + 1 : Nat) : Int) = 4 * g + 3 by omega]
      omega
    · rw [if_neg c, if_neg c, if_neg c, if_neg c]
      by_cases d : g < m
      · rw [if_pos d, if_pos (by omega)]
        omega
      · rw [if_neg d, if_neg (by omega)]
        omega
theorem gG_le {p : Int → Int} {g : Int} (hp : ∀ i, 0 ≤ p i) (hg : 0 ≤ g ∧ g < 36) : 0 ≤ gG p g ∧ gG p g ≤ zSm p 144 := by
  have h1 := zSm_g (p := p) hg.1 36
  rw [if_pos (by omega)] at h1
  have h2 := zSm_mo (f := fun j => if j / 4 = g then p j else 0) (g := p) (fun i => by show (if i / 4 = g then p i else 0) ≤ p i; have := hp i; split <;> omega) 144
  refine ⟨?_, by rw [← h1]; exact h2⟩
  unfold gG
  have a1 := hp (4 * g)
  have a2 := hp (4 * g + 1)
  have a3 := hp (4 * g + 2)
  have a4 := hp (4 * g + 3)
  omega
/-- what comes to the goal by the first k stands that are not there -/
def cC (Kd : Int → Int) (goal : Int) (p : Int → Int) (k : Nat) : Int := zSm (fun j => if ¬ j / 4 = goal ∧ pTo Kd goal j = goal then 4 * p j else 0) k
theorem gG_pD {Kd : Int → Int} {goal : Int} {p : Int → Int} (hg : 0 ≤ goal ∧ goal < 36) : ∀ k : Nat, k ≤ 144 → gG (pD Kd goal p k) goal = cC Kd goal p k + zSm (fun j => if j / 4 = goal then 4 * p j else 0) k := by
  intro k
  induction k with
  | zero => intro _; rfl
  | succ k ih =>
    intro hk
    have ih := ih (by omega)
    have hr := pTo_R (Kd := Kd) hg (k := (k : Int)) ⟨by omega, by omega⟩
    show gG (pOn Kd goal (k : Int) (p (k : Int)) (pD Kd goal p k)) goal = cC Kd goal p k + (if ¬ (k : Int) / 4 = goal ∧ pTo Kd goal (k : Int) = goal then 4 * p (k : Int) else 0) + (zSm (fun j => if j / 4 = goal then 4 * p j else 0) k + (if (k : Int) / 4 = goal then 4 * p (k : Int) else 0))
    unfold gG at ih ⊢
    rw [pOn_at, pOn_at, pOn_at, pOn_at]
    have e : (k : Int) / 4 = goal → pTo Kd goal (k : Int) = goal := by
      intro c1
      unfold pTo
      rw [if_pos c1]
    by_cases c3 : pTo Kd goal (k : Int) = -4
    · simp only [if_pos c3]
      (repeat' split) <;> omega
    · simp only [if_neg c3]
      (repeat' split) <;> omega
theorem gG_D {Kd : Int → Int} {goal : Int} {p : Int → Int} (hg : 0 ≤ goal ∧ goal < 36) : gG (pD Kd goal p 144) goal = cC Kd goal p 144 + 4 * gG p goal := by
  rw [gG_pD hg 144 (by decide)]
  have h1 := zSm_g (p := fun j => 4 * p j) hg.1 36
  rw [if_pos (by omega)] at h1
  rw [show (144 : Nat) = 4 * 36 by decide, h1]
  unfold gG
  dsimp only
  omega
def p4 (n : Nat) : Int := ((4 ^ n : Nat) : Int)
theorem p4_s (n : Nat) : p4 (n + 1) = 4 * p4 n := by
  unfold p4
  rw [Nat.pow_succ]
  omega
theorem p4_R {n : Nat} (hn : n ≤ 20) : 1 ≤ p4 n ∧ p4 n ≤ 1099511627776 := by
  have : ∀ n : Fin 21, 1 ≤ p4 n.1 ∧ p4 n.1 ≤ 1099511627776 := by decide +kernel
  exact this ⟨n, by omega⟩
def pOk (n : Nat) (p : Int → Int) : Prop := (∀ i, 0 ≤ p i) ∧ zSm p 144 = p4 n
theorem pOk_D {Kd : Int → Int} {goal : Int} {n : Nat} {p : Int → Int} (hg : 0 ≤ goal ∧ goal < 36) (h : pOk n p) : pOk (n + 1) (pD Kd goal p 144) :=
  ⟨pD_0 h.1 144, by rw [pD_sm hg 144 (by decide), p4_s, h.2]⟩
theorem pOk_0 {s : Int} (hs : 0 ≤ s ∧ s < 144) : pOk 0 (p0 s) := by
  refine ⟨fun i => ?_, ?_⟩
  · unfold p0; split <;> decide
  · have : p0 s = sA (fun _ => 0) s 1 := by
      funext i
      unfold p0 sA
      split <;> rfl
    rw [this, zSm_sA, if_pos (by omega)]
    have z : ∀ n : Nat, zSm (fun _ => 0) n = 0 := by
      intro n
      induction n with
      | zero => rfl
      | succ n ih => show zSm (fun _ => 0) n + 0 = 0; rw [ih]; rfl
    rw [z]
    rfl
theorem pIt_s (Kd : Int → Int) (goal : Int) : ∀ (n : Nat) (p : Int → Int), pIt Kd goal (n + 1) p = pD Kd goal (pIt Kd goal n p) 144 := by
  intro n
  induction n with
  | zero => intro p; rfl
  | succ n ih => intro p; exact ih (pD Kd goal p 144)
theorem pIt_ok {Kd : Int → Int} {goal s : Int} (hg : 0 ≤ goal ∧ goal < 36) (hs : 0 ≤ s ∧ s < 144) : ∀ n : Nat, pOk n (pIt Kd goal n (p0 s)) := by
  intro n
  induction n with
  | zero => exact pOk_0 hs
  | succ n ih => rw [pIt_s]; exact pOk_D hg ih
/-! halves and the greatest that divides both -/
theorem zGcd {U j n num : Nat} (h1 : num * 2 ^ j = U) (h2 : j ≤ 2 * n) (h3 : j = 2 * n ∨ num % 2 = 1) : Nat.gcd U (4 ^ n) = 2 ^ j := by
  have e4 : 4 ^ n = 2 ^ j * 2 ^ (2 * n - j) := by
    rw [← Nat.pow_add, show j + (2 * n - j) = 2 * n by omega, Nat.pow_mul]
  rw [e4, ← h1, Nat.mul_comm num, Nat.gcd_mul_left]
  have : Nat.gcd num (2 ^ (2 * n - j)) = 1 := by
    rcases h3 with z | z
    · rw [show 2 * n - j = 0 by omega, Nat.pow_zero, Nat.gcd_one_right]
    · have c2 : Nat.Coprime num 2 := by
        show Nat.gcd num 2 = 1
        rw [Nat.gcd_comm, Nat.gcd_rec, z]
        rfl
      exact c2.pow_right _
  rw [this, Nat.mul_one]
def fOd (up : Int) (n : Nat) (w : Int) : Int := (if w = 0 then up else p4 n) / ((Nat.gcd up.toNat (4 ^ n) : Nat) : Int)
def fOdds (a : zMm) (c way goal n w : Int) : Int :=
  if 0 ≤ c ∧ c < 36 ∧ 0 ≤ way ∧ way ≤ 3 ∧ 0 ≤ goal ∧ goal < 36 ∧ 0 ≤ n ∧ n ≤ 20 ∧ 0 ≤ w ∧ w ≤ 1 then (if a 0 c = 2 then -2 else fOd (gG (pIt (a 0) goal n.toNat (p0 (4 * c + way))) goal) n.toNat w) else -1
/-! the class's -/
def oF (h h' : zMm) : Prop := (∀ o : Nat, o ≠ 48 → o ≠ 49 → o ≠ 50 → h' o = h o)
theorem oF.trans {h h1 h2 : zMm} (a : oF h h1) (b : oF h1 h2) : oF h h2 := fun o c1 c2 c3 => (b o c1 c2 c3).trans (a o c1 c2 c3)
theorem oF.up {h h1 : zMm} {o : Nat} {k x : Int} (a : oF h h1) (ho : o = 48 ∨ o = 49 ∨ o = 50) : oF h (zU h1 o k x) := fun q c1 c2 c3 => (zU_off q (by omega)).trans (a q c1 c2 c3)
def oL (Kd : Int → Int) (goal : Int) (p : Int → Int) (d : Int) (k : Nat) (h : zMm) : Prop := (∀ i : Int, 0 ≤ i → i < 144 → h 49 i = if i / 4 = goal then 0 else p i) ∧ (∀ i : Int, 0 ≤ i → i < 144 → h 50 i = if i / 4 = goal then 0 else pD Kd goal p k i) ∧ h 48 2 = 4 * gG p goal + cC Kd goal p k ∧ h 48 4 = d
theorem cC_s (Kd : Int → Int) (goal : Int) (p : Int → Int) (k : Nat) : cC Kd goal p (k + 1) = cC Kd goal p k + (if ¬ (k : Int) / 4 = goal ∧ pTo Kd goal (k : Int) = goal then 4 * p (k : Int) else 0) := rfl
theorem pD_s (Kd : Int → Int) (goal : Int) (p : Int → Int) (k : Nat) (i : Int) : pD Kd goal p (k + 1) i = pOn Kd goal (k : Int) (p (k : Int)) (pD Kd goal p k) i := rfl
theorem zU_sA (h : zMm) (o : Nat) (j x i : Int) : (zU h o j (h o j + x)) o i = if i = j then h o i + x else h o i := by
  rw [zU_at]
  by_cases c : i = j
  · rw [if_pos ⟨rfl, c⟩, if_pos c, c]
  · rw [if_neg (fun z => c z.2), if_neg c]
theorem sX0_spread {Kd p : Int → Int} {goal d : Int} {k : Nat} {h : zMm} {K : zMm → Prop} (hk : zKd (h 11) Kd) (hg : 0 ≤ goal ∧ goal < 36) (hk4 : k < 144) (L : oL Kd goal p d k h) (hne : ¬ (k : Int) / 4 = goal) (hK : ∀ h', oL Kd goal p d (k + 1) h' → oF h h' → K h') : zCv mX0_spread [.ref 48, .ref 10, .int (zI (k : Int)), .int (zI goal)] zS0 h K := by
  obtain ⟨l1, l2, l3, l4⟩ := L
  have of : oF h h := fun _ _ _ _ => rfl
  have hc : 0 ≤ (k : Int) / 4 ∧ (k : Int) / 4 < 36 := by omega
  have hx := zNx_R (Kd := Kd) (c := (k : Int) / 4) (way := (k : Int) % 4) hc
  have et : pTo Kd goal (k : Int) = zNx Kd ((k : Int) / 4) ((k : Int) % 4) := by unfold pTo; rw [if_neg hne]
  have ew := l1 (k : Int) (by omega) (by omega)
  rw [if_neg hne] at ew
  refine wX0_spread ⟨⟨by omega, by omega⟩, sX3_ahead g0_10 hk hc ⟨by omega, by omega⟩ ?_⟩
  rw [← et] at hx ⊢
  have cs := cC_s Kd goal p k
  refine ⟨⟨by omega, by omega⟩, ⟨by omega, by omega⟩, fun c => ⟨fun e => ?_, fun e => ⟨⟨by omega, by omega⟩, ⟨by omega, by omega⟩, ?_⟩⟩, fun c => ⟨⟨by omega, by omega⟩, ?_⟩⟩
  · have e4 : pTo Kd goal (k : Int) = -4 := by omega
    rw [if_neg (by omega), Int.add_zero] at cs
    refine bX0_spread_84 ⟨by decide, fun z => absurd z (by decide), fun _ => ⟨⟨by omega, by omega⟩, ⟨by omega, by omega⟩, ?_⟩⟩
    refine bX0_spread_84 ⟨by decide, fun z => absurd z (by decide), fun _ => ⟨⟨by omega, by omega⟩, ⟨by omega, by omega⟩, ?_⟩⟩
    refine bX0_spread_84 ⟨by decide, fun z => absurd z (by decide), fun _ => ⟨⟨by omega, by omega⟩, ⟨by omega, by omega⟩, ?_⟩⟩
    refine bX0_spread_84 ⟨by decide, fun z => absurd z (by decide), fun _ => ⟨⟨by omega, by omega⟩, ⟨by omega, by omega⟩, ?_⟩⟩
    refine bX0_spread_84 ⟨by decide, fun _ => ?_, fun z => absurd z (by decide)⟩
    refine hK _ ⟨fun i i0 i1 => ?_, fun i i0 i1 => ?_, ?_, ?_⟩ ((((of.up (Or.inr (Or.inr rfl))).up (Or.inr (Or.inr rfl))).up (Or.inr (Or.inr rfl))).up (Or.inr (Or.inr rfl)))
    · rw [zU_off 49 (by decide), zU_off 49 (by decide), zU_off 49 (by decide), zU_off 49 (by decide)]
      exact l1 i i0 i1
    · have l2i := l2 i i0 i1
      rw [pD_s, pOn_at, if_pos e4, zU_sA, zU_sA, zU_sA, zU_sA]
      simp only [zU_at, show ¬ ((49 : Nat) = 50) by decide, false_and, if_false, ew]
      by_cases cg : i / 4 = goal
      · rw [if_pos cg] at l2i ⊢
        (repeat' split) <;> omega
      · rw [if_neg cg] at l2i ⊢
        (repeat' split) <;> omega
    · rw [zU_off 48 (by decide), zU_off 48 (by decide), zU_off 48 (by decide), zU_off 48 (by decide), cs]
      exact l3
    · rw [zU_off 48 (by decide), zU_off 48 (by decide), zU_off 48 (by decide), zU_off 48 (by decide)]
      exact l4
  · rw [if_neg (by omega), Int.add_zero] at cs
    refine hK _ ⟨fun i i0 i1 => ?_, fun i i0 i1 => ?_, ?_, ?_⟩ (of.up (Or.inr (Or.inr rfl)))
    · rw [zU_off 49 (by decide)]
      exact l1 i i0 i1
    · have l2i := l2 i i0 i1
      have l2x := l2 (pTo Kd goal (k : Int) * 4 + (k : Int) % 4) (by omega) (by omega)
      rw [if_neg (by omega)] at l2x
      rw [pD_s, pOn_at, if_neg (show ¬ pTo Kd goal (k : Int) = -4 by omega), zU_at, ew]
      by_cases cx : i = pTo Kd goal (k : Int) * 4 + (k : Int) % 4
      · rw [if_pos ⟨rfl, cx⟩, if_neg (by omega), if_pos (show i = 4 * pTo Kd goal (k : Int) + (k : Int) % 4 by omega), l2x, cx]
      · rw [if_neg (fun z => cx z.2), if_neg (show ¬ i = 4 * pTo Kd goal (k : Int) + (k : Int) % 4 by omega)]
        exact l2i
    · rw [zU_off 48 (by decide), cs]
      exact l3
    · rw [zU_off 48 (by decide)]
      exact l4
  · rw [if_pos ⟨hne, c⟩] at cs
    refine hK _ ⟨fun i i0 i1 => ?_, fun i i0 i1 => ?_, ?_, ?_⟩ (of.up (Or.inl rfl))
    · rw [zU_off 49 (by decide)]
      exact l1 i i0 i1
    · have l2i := l2 i i0 i1
      rw [pD_s, pOn_at, if_neg (show ¬ pTo Kd goal (k : Int) = -4 by omega), zU_off 50 (by decide), l2i]
      by_cases cg : i / 4 = goal
      · rw [if_pos cg, if_pos cg]
      · rw [if_neg cg, if_neg cg, if_neg (by omega)]
    · rw [zU_eq, cs, l3, ew]
      omega
    · rw [zU_ne (by omega)]
      exact l4
theorem sX0_goStep {Kd p : Int → Int} {goal d : Int} {n : Nat} {h : zMm} {K : zMm → Prop} (hk : zKd (h 11) Kd) (hg : 0 ≤ goal ∧ goal < 36) (hn : n ≤ 20) (ok : pOk n p) (w1 : ∀ i : Int, 0 ≤ i → i < 144 → h 49 i = if i / 4 = goal then 0 else p i) (w2 : h 48 2 = gG p goal) (w4 : h 48 4 = d) (hK : ∀ h', (∀ i : Int, 0 ≤ i → i < 144 → h' 49 i = if i / 4 = goal then 0 else pD Kd goal p 144 i) → h' 48 2 = gG (pD Kd goal p 144) goal → h' 48 4 = d → oF h h' → K h') : zCv mX0_goStep [.ref 48, .ref 10, .int (zI goal)] zS0 h K := by
  have pR := p4_R hn
  refine wX0_goStep (sJ7_fill_l s0_50 (by decide) ?_)
  have F0 : oF h (zU (zFi h 50 ((144 : Nat) : Int) 0) 48 2 ((zFi h 50 ((144 : Nat) : Int) 0) 48 2 * 4)) := fun o c1 c2 c3 => by rw [zU_off o c1, zFi_of c3]
  have L0 : oL Kd goal p d 0 (zU (zFi h 50 ((144 : Nat) : Int) 0) 48 2 ((zFi h 50 ((144 : Nat) : Int) 0) 48 2 * 4)) := by
    refine ⟨fun i i0 i1 => ?_, fun i i0 i1 => ?_, ?_, ?_⟩
    · rw [zU_off 49 (by decide), zFi_of (by decide)]
      exact w1 i i0 i1
    · rw [zU_off 50 (by decide), show (zFi h 50 ((144 : Nat) : Int) 0) 50 i = 0 from zFi_in i0 i1]
      split <;> rfl
    · rw [zU_eq, zFi_of (by decide), w2]
      show gG p goal * 4 = 4 * gG p goal + 0
      omega
    · rw [zU_ne (by omega), zFi_of (by decide)]
      exact w4
  have loop : ∀ (m k : Nat) (h1 : zMm), k + m = 144 → oL Kd goal p d k h1 → oF h h1 → RR mX0_goStep 0 0 22 [some (.ref 48), some (.ref 10), some (.int (zI goal)), some (.int (zI (k : Int)))] [] zS0 h1 (zQv zS0 K) := by
    intro m
    induction m with
    | zero =>
      intro k h1 hkm L F
      refine bX0_goStep_22 ⟨⟨by omega, by omega⟩, fun _ => ?_, fun z => absurd (by omega) z⟩
      rw [show k = 144 by omega] at L
      obtain ⟨l1, l2, l3, l4⟩ := L
      refine hK _ (fun i i0 i1 => ?_) ?_ ?_ (fun o c1 c2 c3 => by rw [zCp_off o c2]; exact F o c1 c2 c3)
      · have : (zCp h1 50 49 144) 49 i = h1 50 i := by
          unfold zCp
          rw [if_pos ⟨rfl, i0, i1⟩]
        rw [this]
        exact l2 i i0 i1
      · rw [zCp_off 48 (by decide), l3, gG_D hg]
        omega
      · rw [zCp_off 48 (by decide)]
        exact l4
    | succ m ih =>
      intro k h1 hkm L F
      have l1k := L.1 (k : Int) (by omega) (by omega)
      have sl := zSm_le ok.1 144 (k : Int) (by omega) (by omega)
      rw [ok.2] at sl
      have p0k := ok.1 (k : Int)
      refine bX0_goStep_22 ⟨⟨by omega, by omega⟩, fun z => absurd z (by omega), fun _ => ⟨⟨by omega, by omega⟩, ?_⟩⟩
      rw [l1k]
      by_cases cg : (k : Int) / 4 = goal
      · rw [if_pos cg]
        refine ⟨by decide, fun _ => ?_, fun z => absurd (by decide) z⟩
        rw [show (k : Int) + 1 = ((k + 1 : Nat) : Int) by omega]
        refine ih (k + 1) h1 (by omega) ⟨L.1, fun i i0 i1 => ?_, ?_, L.2.2.2⟩ F
        · rw [L.2.1 i i0 i1, pD_s, pOn_at]
          have e : pTo Kd goal (k : Int) = goal := by unfold pTo; rw [if_pos cg]
          rw [e, if_neg (show ¬ goal = -4 by omega)]
          by_cases ci : i / 4 = goal
          · rw [if_pos ci, if_pos ci]
          · rw [if_neg ci, if_neg ci, if_neg (by omega)]
        · rw [L.2.2.1, cC_s, if_neg (fun z => z.1 cg), Int.add_zero]
      · rw [if_neg cg]
        refine ⟨⟨by omega, by omega⟩, fun z => ?_, fun z => ?_⟩
        · have pz : p (k : Int) = 0 := by omega
          rw [show (k : Int) + 1 = ((k + 1 : Nat) : Int) by omega]
          refine ih (k + 1) h1 (by omega) ⟨L.1, fun i i0 i1 => ?_, ?_, L.2.2.2⟩ F
          · rw [L.2.1 i i0 i1, pD_s, pOn_at, pz]
            (repeat' split) <;> omega
          · rw [L.2.2.1, cC_s, pz]
            split <;> omega
        · refine sX0_spread (Kd := Kd) (p := p) (d := d) (by rw [F 11 (by decide) (by decide) (by decide)]; exact hk) hg (by omega) L cg (fun h2 L2 F2 => ?_)
          rw [show (k : Int) + 1 = ((k + 1 : Nat) : Int) by omega]
          exact ih (k + 1) h2 (by omega) L2 (F.trans F2)
  exact loop 144 0 _ (by decide) L0 F0
theorem sX0_weigh {Kd : Int → Int} {goal s n : Int} {h : zMm} {K : zMm → Prop} (hk : zKd (h 11) Kd) (hg : 0 ≤ goal ∧ goal < 36) (hs : 0 ≤ s ∧ s < 144) (hn : 0 ≤ n ∧ n ≤ 20) (hK : ∀ h', h' 48 3 = fOd (gG (pIt Kd goal n.toNat (p0 s)) goal) n.toNat 0 → h' 48 4 = fOd (gG (pIt Kd goal n.toNat (p0 s)) goal) n.toNat 1 → oF h h' → K h') : zCv mX0_weigh [.ref 48, .ref 10, .int (zI s), .int (zI goal), .int (zI n)] zS0 h K := by
  -- the halves
  have half : ∀ (m j : Nat) (h1 : zMm) (num den : Nat), j + m = 2 * n.toNat → h1 48 3 = (num : Int) → h1 48 4 = (den : Int) → num * 2 ^ j = (gG (pIt Kd goal n.toNat (p0 s)) goal).toNat → den * 2 ^ j = 4 ^ n.toNat → oF h h1 → RR mX0_weigh 0 0 85 [some (.ref 48), none, none, none, some (.int (zI n)), some (.int (zI (j : Int)))] [] zS0 h1 (zQv zS0 K) := by
    have ok := pIt_ok (Kd := Kd) hg hs n.toNat
    have gr := gG_le ok.1 hg
    rw [ok.2] at gr
    have pr := p4_R (n := n.toNat) (by omega)
    have done : ∀ (j : Nat) (h1 : zMm) (num den : Nat), j ≤ 2 * n.toNat → h1 48 3 = (num : Int) → h1 48 4 = (den : Int) → num * 2 ^ j = (gG (pIt Kd goal n.toNat (p0 s)) goal).toNat → den * 2 ^ j = 4 ^ n.toNat → oF h h1 → (j = 2 * n.toNat ∨ num % 2 = 1) → K h1 := by
      intro j h1 num den hj e3 e4 en ed F hz
      have g := zGcd en hj hz
      have hp : 0 < 2 ^ j := Nat.pow_pos (by decide)
      refine hK h1 ?_ ?_ F
      · unfold fOd
        rw [if_pos rfl, g, e3]
        have : gG (pIt Kd goal n.toNat (p0 s)) goal = ((num * 2 ^ j : Nat) : Int) := by omega
        rw [this, ← Int.natCast_ediv, Nat.mul_div_cancel _ hp]
      · unfold fOd
        rw [if_neg (by decide), g, e4]
        have : p4 n.toNat = ((den * 2 ^ j : Nat) : Int) := by unfold p4; rw [ed]
        rw [this, ← Int.natCast_ediv, Nat.mul_div_cancel _ hp]
    intro m
    induction m with
    | zero =>
      intro j h1 num den hj e3 e4 en ed F
      exact bX0_weigh_85 ⟨⟨by omega, by omega⟩, ⟨by omega, by omega⟩, fun _ => done j h1 num den (by omega) e3 e4 en ed F (Or.inl (by omega)), fun z => absurd (by omega) z⟩
    | succ m ih =>
      intro j h1 num den hj e3 e4 en ed F
      have hp : 0 < 2 ^ j := Nat.pow_pos (by decide)
      have nb : num ≤ num * 2 ^ j := Nat.le_mul_of_pos_right _ hp
      have db : den ≤ den * 2 ^ j := Nat.le_mul_of_pos_right _ hp
      have pz : p4 n.toNat = ((4 ^ n.toNat : Nat) : Int) := rfl
      have dR : (den : Int) ≤ p4 n.toNat := by rw [pz, ← ed]; exact Int.ofNat_le.2 db
      have nR : (num : Int) ≤ p4 n.toNat := by omega
      refine bX0_weigh_85 ⟨⟨by omega, by omega⟩, ⟨by omega, by omega⟩, fun z => absurd z (by omega), fun _ => ?_⟩
      rw [e3, e4]
      refine ⟨⟨by omega, by omega⟩, ⟨by omega, by omega⟩, fun z => done j h1 num den (by omega) e3 e4 en ed F (Or.inr (by omega)), fun z => ⟨⟨by omega, by omega⟩, ⟨by omega, by omega⟩, ?_⟩⟩
      rw [show (j : Int) + 1 = ((j + 1 : Nat) : Int) by omega]
      have de : den % 2 = 0 := by
        have e2 : 4 ^ n.toNat = 2 ^ (j + 1) * 2 ^ (2 * n.toNat - j - 1) := by
          rw [← Nat.pow_add, show j + 1 + (2 * n.toNat - j - 1) = 2 * n.toNat by omega, Nat.pow_mul]
        rw [e2, Nat.pow_succ] at ed
        have : den * 2 ^ j = (2 * 2 ^ (2 * n.toNat - j - 1)) * 2 ^ j := by
          rw [ed, Nat.mul_comm (2 ^ j) 2, Nat.mul_assoc, Nat.mul_assoc, Nat.mul_comm (2 ^ j)]
        have := Nat.eq_of_mul_eq_mul_right hp this
        omega
      refine ih (j + 1) _ (num / 2) (den / 2) (by omega) (by rw [zU_ne (by omega), zU_eq]; omega) (by rw [zU_eq]; omega) ?_ ?_ ((F.up (Or.inl rfl)).up (Or.inl rfl))
      · rw [← en, Nat.pow_succ, Nat.mul_comm (2 ^ j) 2, ← Nat.mul_assoc, show num / 2 * 2 = num by omega]
      · rw [← ed, Nat.pow_succ, Nat.mul_comm (2 ^ j) 2, ← Nat.mul_assoc, show den / 2 * 2 = den by omega]
  have loop : ∀ (m i : Nat) (h1 : zMm), i + m = n.toNat → (∀ k : Int, 0 ≤ k → k < 144 → h1 49 k = if k / 4 = goal then 0 else pIt Kd goal i (p0 s) k) → h1 48 2 = gG (pIt Kd goal i (p0 s)) goal → h1 48 4 = p4 i → oF h h1 → RR mX0_weigh 0 0 43 [some (.ref 48), some (.ref 10), none, some (.int (zI goal)), some (.int (zI n)), some (.int (zI (i : Int)))] [] zS0 h1 (zQv zS0 K) := by
    intro m
    induction m with
    | zero =>
      intro i h1 hi e1 e2 e4 F
      refine bX0_weigh_43 ⟨⟨by omega, by omega⟩, ⟨by omega, by omega⟩, fun _ => ?_, fun z => absurd (by omega) z⟩
      have ok := pIt_ok (Kd := Kd) hg hs n.toNat
      have gr := gG_le ok.1 hg
      have ei : i = n.toNat := by omega
      rw [ei] at e2 e4
      exact half (2 * n.toNat) 0 _ (gG (pIt Kd goal n.toNat (p0 s)) goal).toNat (4 ^ n.toNat) (by omega) (by rw [zU_eq, e2]; omega) (by rw [zU_ne (by omega), e4]; rfl) (by rw [Nat.pow_zero, Nat.mul_one]) (by rw [Nat.pow_zero, Nat.mul_one]) (F.up (Or.inl rfl))
    | succ m ih =>
      intro i h1 hi e1 e2 e4 F
      refine bX0_weigh_43 ⟨⟨by omega, by omega⟩, ⟨by omega, by omega⟩, fun z => absurd z (by omega), fun _ => ?_⟩
      refine sX0_goStep (Kd := Kd) (n := i) (by rw [F 11 (by decide) (by decide) (by decide)]; exact hk) hg (by omega) (pIt_ok hg hs i) e1 e2 e4 (fun h2 f1 f2 f4 F2 => ?_)
      rw [show (i : Int) + 1 = ((i + 1 : Nat) : Int) by omega]
      refine ih (i + 1) _ (by omega) (fun k k0 k1 => ?_) ?_ ?_ ((F.trans F2).up (Or.inl rfl))
      · rw [zU_off 49 (by decide), pIt_s]
        exact f1 k k0 k1
      · rw [zU_ne (by omega), pIt_s]
        exact f2
      · rw [zU_eq, f4, p4_s]
        omega
  refine wX0_weigh (sJ7_fill_l s0_49 (by decide) ?_)
  have z49 : ∀ k : Int, 0 ≤ k → k < 144 → (zFi h 49 ((144 : Nat) : Int) 0) 49 k = 0 := fun k k0 k1 => zFi_in k0 k1
  have zF : oF h (zFi h 49 ((144 : Nat) : Int) 0) := fun o _ c2 _ => zFi_of c2
  refine ⟨⟨by omega, by omega⟩, ⟨by omega, by omega⟩, ⟨by omega, by omega⟩, fun c => ⟨⟨by omega, by omega⟩, ?_⟩, fun c => ?_⟩
  · refine loop n.toNat 0 _ (by omega) (fun k k0 k1 => ?_) ?_ ?_ (((zF.up (Or.inl rfl)).up (Or.inl rfl)).up (Or.inr (Or.inl rfl)))
    · rw [zU_at]
      show _ = if k / 4 = goal then 0 else (if k = s then 1 else 0)
      by_cases ck : k = s
      · rw [if_pos ⟨rfl, ck⟩, if_neg (by rw [ck]; exact c), if_pos ck]
      · rw [if_neg (fun z => ck z.2), zU_off 49 (by decide), zU_off 49 (by decide), z49 k k0 k1, if_neg ck]
        split <;> rfl
    · rw [zU_off 48 (by decide), zU_ne (by omega), zU_eq]
      show 0 = (if 4 * goal = s then 1 else 0) + (if 4 * goal + 1 = s then 1 else 0) + (if 4 * goal + 2 = s then 1 else 0) + (if 4 * goal + 3 = s then (1 : Int) else 0)
      rw [if_neg (by omega), if_neg (by omega), if_neg (by omega), if_neg (by omega)]
      rfl
    · rw [zU_off 48 (by decide), zU_eq]
      rfl
  · refine loop n.toNat 0 _ (by omega) (fun k k0 k1 => ?_) ?_ ?_ (((zF.up (Or.inl rfl)).up (Or.inl rfl)).up (Or.inl rfl))
    · rw [zU_off 49 (by decide), zU_off 49 (by decide), zU_off 49 (by decide), z49 k k0 k1]
      show 0 = if k / 4 = goal then 0 else (if k = s then (1 : Int) else 0)
      by_cases ck : k = s
      · rw [if_pos (by rw [ck]; exact c)]
      · rw [if_neg ck]
        split <;> rfl
    · rw [zU_eq]
      show 1 = (if 4 * goal = s then 1 else 0) + (if 4 * goal + 1 = s then 1 else 0) + (if 4 * goal + 2 = s then 1 else 0) + (if 4 * goal + 3 = s then (1 : Int) else 0)
      rcases (show s = 4 * goal ∨ s = 4 * goal + 1 ∨ s = 4 * goal + 2 ∨ s = 4 * goal + 3 by omega) with e | e | e | e <;> subst e <;> (repeat' split) <;> omega
    · rw [zU_ne (by omega), zU_eq]
      rfl
theorem cOdds {a h : zMm} {v1 v2 v3 v4 v5 : Int} {K : Int → zMm → Prop} (C : CR a h) (r1 : zR v1) (r2 : zR v2) (r3 : zR v3) (r4 : zR v4) (r5 : zR v5) (hK : ∀ h', CR a h' → zHi81 h h' → K (fOdds a v1 v2 v3 v4 v5) h') : zCl mX11_odds [.ref 0, .int (zI v1), .int (zI v2), .int (zI v3), .int (zI v4), .int (zI v5)] zS0 h K := by
  unfold fOdds at hK
  have no : ¬ (0 ≤ v1 ∧ v1 < 36 ∧ 0 ≤ v2 ∧ v2 ≤ 3 ∧ 0 ≤ v3 ∧ v3 < 36 ∧ 0 ≤ v4 ∧ v4 ≤ 20 ∧ 0 ≤ v5 ∧ v5 ≤ 1) → K (-1) h := by
    intro c
    rw [if_neg c] at hK
    exact hK h C (fun _ _ => rfl)
  refine wX11_odds (sX11_isRobot r1 r2 (by decide) (by decide) ?_)
  simp only [decide_eq_true_eq, decide_eq_false_iff_not]
  refine ⟨fun c => no (by omega), fun c => sX11_isCell r3 ?_⟩
  simp only [decide_eq_true_eq, decide_eq_false_iff_not]
  refine ⟨fun d => sX11_isWithin r4 (by decide) (by decide) ?_, fun d => no (by omega)⟩
  simp only [decide_eq_true_eq, decide_eq_false_iff_not]
  refine ⟨fun f => no (by omega), fun f => sX11_isWithin r5 (by decide) (by decide) ?_⟩
  simp only [decide_eq_true_eq, decide_eq_false_iff_not]
  refine ⟨fun g => sX3_isOpen' g0_10 C.1.1.1 ⟨by omega, by omega⟩ ?_, fun g => no (by omega)⟩
  rw [if_pos (by omega)] at hK
  simp only [decide_eq_true_eq, decide_eq_false_iff_not]
  refine ⟨fun q => ?_, fun q => ?_⟩
  · rw [if_neg q] at hK
    refine sX0_weigh (Kd := a 0) C.1.1.1 d ⟨by omega, by omega⟩ f (fun h' e3 e4 F => ⟨r5, ?_⟩)
    have key := hK h' (C.scr (fun o ho => F o (by omega) (by omega) (by omega))) (fun o ho => F o (by omega) (by omega) (by omega))
    rw [show v1 * 4 + v2 = 4 * v1 + v2 by omega] at e3 e4
    by_cases w : v5 = 0
    · rw [w] at key ⊢
      rw [if_pos rfl, e3]
      exact key
    · rw [show v5 = 1 by omega] at key ⊢
      rw [if_neg (by decide), e4]
      exact key
  · rw [if_pos (by omega)] at hK
    exact hK h C (fun _ _ => rfl)
