/-! BITS of longs, told by numbers -/
theorem zJ_nat {z : Int} (hz : 0 ≤ z ∧ z < 9223372036854775808) : (zJ z).toBitVec.toNat = z.toNat := by
  have : (((zJ z).toBitVec.toNat : Nat) : Int) = z := by
    show ((BitVec.ofInt 64 z).toNat : Int) = _
    rw [BitVec.toNat_ofInt]
    omega
  omega
theorem lA_is {x y : Int} (hx : 0 ≤ x ∧ x < 9223372036854775808) (hy : 0 ≤ y ∧ y < 9223372036854775808) : lA x y = ((x.toNat &&& y.toNat : Nat) : Int) := by
  unfold lA
  show ((zJ x).toBitVec &&& (zJ y).toBitVec).toInt = _
  rw [BitVec.toInt_eq_toNat_bmod, BitVec.toNat_and, zJ_nat hx, zJ_nat hy]
  have h1 : x.toNat &&& y.toNat ≤ x.toNat := Nat.and_le_left
  rw [Int.bmod_def]
  split <;> omega
theorem lO_is {x y : Int} (hx : 0 ≤ x ∧ x < 9223372036854775808) (hy : 0 ≤ y ∧ y < 9223372036854775808) : lO x y = ((x.toNat ||| y.toNat : Nat) : Int) := by
  unfold lO
  show ((zJ x).toBitVec ||| (zJ y).toBitVec).toInt = _
  rw [BitVec.toInt_eq_toNat_bmod, BitVec.toNat_or, zJ_nat hx, zJ_nat hy]
  have h1 : x.toNat ||| y.toNat < 2 ^ 63 := Nat.or_lt_two_pow (by omega) (by omega)
  rw [Int.bmod_def]
  split <;> omega
theorem lO_0 {x : Int} (hx : 0 ≤ x ∧ x < 9223372036854775808) : lO x 0 = x := by
  rw [lO_is hx ⟨by decide, by decide⟩]
  have : x.toNat ||| (0 : Int).toNat = x.toNat := Nat.or_zero _
  rw [this]
  omega
theorem lSl_1 {k : Int} (hk : 0 ≤ k ∧ k < 36) : lSl 1 k = ((2 ^ k.toNat : Nat) : Int) := by
  have : ∀ s : Fin 36, lSl 1 ((s.1 : Nat) : Int) = ((2 ^ s.1 : Nat) : Int) := by decide +kernel
  have := this ⟨k.toNat, by omega⟩
  rw [show (((⟨k.toNat, by omega⟩ : Fin 36).1 : Nat) : Int) = k by show ((k.toNat : Nat) : Int) = k; omega] at this
  exact this
theorem lSl_R {k : Int} (hk : 0 ≤ k ∧ k < 36) : 0 ≤ lSl 1 k ∧ lSl 1 k < 68719476736 := by
  rw [lSl_1 hk]
  have h1 : 2 ^ k.toNat < 2 ^ 36 := Nat.pow_lt_pow_right (by decide) (by omega)
  have h2 : (2 : Nat) ^ 36 = 68719476736 := by decide
  generalize 2 ^ k.toNat = q at h1 ⊢
  omega
theorem lO_R {x y : Int} (hx : 0 ≤ x ∧ x < 68719476736) (hy : 0 ≤ y ∧ y < 68719476736) : 0 ≤ lO x y ∧ lO x y < 68719476736 := by
  rw [lO_is ⟨by omega, by omega⟩ ⟨by omega, by omega⟩]
  have h1 : x.toNat ||| y.toNat < 2 ^ 36 := Nat.or_lt_two_pow (by omega) (by omega)
  have h2 : (2 : Nat) ^ 36 = 68719476736 := by decide
  omega
theorem lA_R {x y : Int} (hx : 0 ≤ x ∧ x < 68719476736) (hy : 0 ≤ y ∧ y < 68719476736) : 0 ≤ lA x y ∧ lA x y < 68719476736 := by
  rw [lA_is ⟨by omega, by omega⟩ ⟨by omega, by omega⟩]
  have h1 : x.toNat &&& y.toNat ≤ x.toNat := Nat.and_le_left
  omega
/-- the bits of those below n for which P holds -/
def nB (P : Nat → Bool) : Nat → Nat
  | 0 => 0
  | n + 1 => nB P n + (if P n = true then 2 ^ n else 0)
theorem nB_lt (P : Nat → Bool) : ∀ n, nB P n < 2 ^ n := by
  intro n
  induction n with
  | zero => exact Nat.one_pos
  | succ n ih =>
    unfold nB
    rw [Nat.pow_succ]
    split <;> omega
def zB (P : Int → Bool) (n : Nat) : Int := (nB (fun k => P (k : Int)) n : Nat)
theorem zB_R {P : Int → Bool} {n : Nat} (hn : n ≤ 36) : 0 ≤ zB P n ∧ zB P n < 68719476736 := by
  unfold zB
  have h1 := nB_lt (fun k => P (k : Int)) n
  have h2 : 2 ^ n ≤ 2 ^ 36 := Nat.pow_le_pow_right (by decide) hn
  have h3 : (2 : Nat) ^ 36 = 68719476736 := by decide
  omega
theorem zB_on {P : Int → Bool} {n : Nat} (hn : n < 36) (hP : P (n : Int) = true) : lO (zB P n) (lSl 1 (n : Int)) = zB P (n + 1) := by
  have h0 := zB_R (P := P) (n := n) (by omega)
  have h9 := lSl_R (k := (n : Int)) ⟨by omega, by omega⟩
  rw [lO_is ⟨by omega, by omega⟩ ⟨by omega, by omega⟩, lSl_1 ⟨by omega, by omega⟩]
  have e1 : (zB P n).toNat = nB (fun k => P (k : Int)) n := by unfold zB; omega
  have e2 : (((2 ^ ((n : Int).toNat) : Nat) : Int)).toNat = 2 ^ n := by
    rw [show (n : Int).toNat = n by omega]
    exact Int.toNat_natCast _
  rw [e1, e2, Nat.or_comm]
  have h3 := Nat.two_pow_add_eq_or_of_lt (nB_lt (fun k => P (k : Int)) n) 1
  rw [Nat.mul_one] at h3
  rw [← h3]
  unfold zB
  rw [show nB (fun k => P (k : Int)) (n + 1) = nB (fun k => P (k : Int)) n + (if P (n : Int) = true then 2 ^ n else 0) from rfl, if_pos hP, Nat.add_comm]
theorem zB_off {P : Int → Bool} {n : Nat} (hP : P (n : Int) = false) : zB P (n + 1) = zB P n := by
  unfold zB
  rw [show nB (fun k => P (k : Int)) (n + 1) = nB (fun k => P (k : Int)) n + (if P (n : Int) = true then 2 ^ n else 0) from rfl, if_neg (by rw [hP]; decide), Nat.add_zero]
theorem zB_0 (P : Int → Bool) : zB P 0 = 0 := rfl
/-- how many of the lowest k bits are set -/
def nS : Nat → Nat → Nat
  | 0, _ => 0
  | k + 1, x => nS k x + x / 2 ^ k % 2
theorem nS_add (n : Nat) (x : Nat) : ∀ m, nS (n + m) x = nS n x + nS m (x / 2 ^ n) := by
  intro m
  induction m with
  | zero => rfl
  | succ m ih =>
    show nS (n + m) x + x / 2 ^ (n + m) % 2 = nS n x + (nS m (x / 2 ^ n) + x / 2 ^ n / 2 ^ m % 2)
    rw [ih, Nat.div_div_eq_div_mul, ← Nat.pow_add]
    omega
theorem nS_8 (x : Nat) : nS 8 x = nS 8 (x % 256) := by
  show 0 + x / 2 ^ 0 % 2 + x / 2 ^ 1 % 2 + x / 2 ^ 2 % 2 + x / 2 ^ 3 % 2 + x / 2 ^ 4 % 2 + x / 2 ^ 5 % 2 + x / 2 ^ 6 % 2 + x / 2 ^ 7 % 2 = 0 + x % 256 / 2 ^ 0 % 2 + x % 256 / 2 ^ 1 % 2 + x % 256 / 2 ^ 2 % 2 + x % 256 / 2 ^ 3 % 2 + x % 256 / 2 ^ 4 % 2 + x % 256 / 2 ^ 5 % 2 + x % 256 / 2 ^ 6 % 2 + x % 256 / 2 ^ 7 % 2
  omega
theorem nS_le (x : Nat) : ∀ k, nS k x ≤ k := by
  intro k
  induction k with
  | zero => exact Nat.le_refl _
  | succ k ih =>
    show nS k x + x / 2 ^ k % 2 ≤ k + 1
    omega
/-- masks, byte by byte -/
def nM (e : Nat) : Nat → Nat
  | 0 => 0
  | k + 1 => e + 256 * nM e k
theorem nAnd (b n e m : Nat) (hb : b < 256) (he : e < 256) : (b + 256 * n) &&& (e + 256 * m) = (b &&& e) + 256 * (n &&& m) := by
  have h1 : ((b + 256 * n) &&& (e + 256 * m)) / 2 ^ 8 = (b + 256 * n) / 2 ^ 8 &&& (e + 256 * m) / 2 ^ 8 := Nat.and_div_two_pow
  have h2 : ((b + 256 * n) &&& (e + 256 * m)) % 2 ^ 8 = ((b + 256 * n) % 2 ^ 8) &&& ((e + 256 * m) % 2 ^ 8) := Nat.and_mod_two_pow
  rw [show (b + 256 * n) / 2 ^ 8 = n by omega, show (e + 256 * m) / 2 ^ 8 = m by omega] at h1
  rw [show (b + 256 * n) % 2 ^ 8 = b by omega, show (e + 256 * m) % 2 ^ 8 = e by omega] at h2
  omega
def nS1 (M x : Nat) : Nat := x - ((x / 2) &&& M)
def nS2 (M y : Nat) : Nat := (y &&& M) + ((y / 4) &&& M)
def nS3 (M z : Nat) : Nat := (z + z / 16) &&& M
theorem nS1_st (k b n : Nat) (hb : b < 256) : nS1 (nM 85 (k + 1)) (b + 256 * n) = nS1 85 b + 256 * nS1 (nM 85 k) n := by
  unfold nS1
  show (b + 256 * n) - ((b + 256 * n) / 2 &&& (85 + 256 * nM 85 k)) = _
  rw [show (b + 256 * n) / 2 = (b / 2 + 128 * (n % 2)) + 256 * (n / 2) by omega, nAnd _ _ _ _ (by omega) (by decide)]
  have h1 : ∀ b : Fin 256, ∀ t : Fin 2, (b.1 / 2 + 128 * t.1) &&& 85 = (b.1 / 2) &&& 85 ∧ (b.1 / 2) &&& 85 ≤ b.1 := by decide +kernel
  have h2 := h1 ⟨b, hb⟩ ⟨n % 2, by omega⟩
  simp only at h2
  have h3 : n / 2 &&& nM 85 k ≤ n / 2 := Nat.and_le_left
  omega
theorem nS2_st (k b n : Nat) (hb : b < 256) : nS2 (nM 51 (k + 1)) (b + 256 * n) = nS2 51 b + 256 * nS2 (nM 51 k) n := by
  unfold nS2
  show ((b + 256 * n) &&& (51 + 256 * nM 51 k)) + ((b + 256 * n) / 4 &&& (51 + 256 * nM 51 k)) = _
  rw [show (b + 256 * n) / 4 = (b / 4 + 64 * (n % 4)) + 256 * (n / 4) by omega, nAnd _ _ _ _ hb (by decide), nAnd _ _ _ _ (by omega) (by decide)]
  have h1 : ∀ b : Fin 256, ∀ t : Fin 4, (b.1 / 4 + 64 * t.1) &&& 51 = (b.1 / 4) &&& 51 := by decide +kernel
  have h2 := h1 ⟨b, hb⟩ ⟨n % 4, by omega⟩
  simp only at h2
  omega
theorem nS3_st (k b n : Nat) (hb : b ≤ 68) (hn : n % 16 ≤ 4) : nS3 (nM 15 (k + 1)) (b + 256 * n) = nS3 15 b + 256 * nS3 (nM 15 k) n := by
  unfold nS3
  show (b + 256 * n + (b + 256 * n) / 16) &&& (15 + 256 * nM 15 k) = _
  rw [show b + 256 * n + (b + 256 * n) / 16 = (b + b / 16 + 16 * (n % 16)) + 256 * (n + n / 16) by omega, nAnd _ _ _ _ (by omega) (by decide)]
  have h1 : ∀ b : Fin 69, ∀ t : Fin 5, (b.1 + b.1 / 16 + 16 * t.1) &&& 15 = (b.1 + b.1 / 16) &&& 15 := by decide +kernel
  have h2 := h1 ⟨b, by omega⟩ ⟨n % 16, by omega⟩
  simp only at h2
  omega
theorem nS_by (b : Nat) (hb : b < 256) : nS1 85 b < 256 ∧ nS2 51 (nS1 85 b) ≤ 68 ∧ nS2 51 (nS1 85 b) % 16 ≤ 4 ∧ nS3 15 (nS2 51 (nS1 85 b)) = nS 8 b := by
  have h1 : ∀ b : Fin 256, nS1 85 b.1 < 256 ∧ nS2 51 (nS1 85 b.1) ≤ 68 ∧ nS2 51 (nS1 85 b.1) % 16 ≤ 4 ∧ nS3 15 (nS2 51 (nS1 85 b.1)) = nS 8 b.1 := by decide +kernel
  exact h1 ⟨b, hb⟩
theorem nS2_16 (k n : Nat) : nS2 (nM 51 k) (nS1 (nM 85 k) n) % 16 ≤ 4 := by
  cases k with
  | zero =>
    show ((_ &&& 0) + (_ &&& 0)) % 16 ≤ 4
    rw [Nat.and_zero, Nat.and_zero]
    decide
  | succ k =>
    have h1 := nS_by (n % 256) (by omega)
    rw [show n = n % 256 + 256 * (n / 256) by omega, nS1_st _ _ _ (by omega), nS2_st _ _ _ h1.1]
    omega
def nT (k x : Nat) : Nat := nS3 (nM 15 k) (nS2 (nM 51 k) (nS1 (nM 85 k) x))
theorem nT_st (k x : Nat) : nT (k + 1) x = nS 8 x + 256 * nT k (x / 256) := by
  have h1 := nS_by (x % 256) (by omega)
  unfold nT
  rw [show x = x % 256 + 256 * (x / 256) by omega, nS1_st _ _ _ (by omega), nS2_st _ _ _ h1.1, nS3_st _ _ _ h1.2.1 (nS2_16 _ _), h1.2.2.2, ← nS_8, show (x % 256 + 256 * (x / 256)) / 256 = x / 256 by omega, show x % 256 + 256 * (x / 256) = x by omega]
theorem nT_0 : nT 3 0 = 0 := by decide
theorem nT_is (x : Nat) (hx : x < 68719476736) : ∃ c0 c1 c2 c3 c4 : Nat, nT 8 x = c0 + 256 * (c1 + 256 * (c2 + 256 * (c3 + 256 * c4))) ∧ c0 ≤ 8 ∧ c1 ≤ 8 ∧ c2 ≤ 8 ∧ c3 ≤ 8 ∧ c4 ≤ 8 ∧ nS 36 x = c0 + c1 + c2 + c3 + c4 := by
  refine ⟨nS 8 x, nS 8 (x / 256), nS 8 (x / 256 / 256), nS 8 (x / 256 / 256 / 256), nS 8 (x / 256 / 256 / 256 / 256), ?_, nS_le _ _, nS_le _ _, nS_le _ _, nS_le _ _, nS_le _ _, ?_⟩
  · rw [nT_st, nT_st, nT_st, nT_st, nT_st, show x / 256 / 256 / 256 / 256 / 256 = 0 by omega, nT_0, Nat.mul_zero, Nat.add_zero]
  · have e1 := nS_add 8 x 28
    have e2 := nS_add 8 (x / 256) 20
    have e3 := nS_add 8 (x / 256 / 256) 12
    have e4 := nS_add 8 (x / 256 / 256 / 256) 4
    have e5 := nS_add 4 (x / 256 / 256 / 256 / 256) 4
    rw [show (2 : Nat) ^ 8 = 256 by decide] at e1 e2 e3 e4
    have e6 : nS 4 (x / 256 / 256 / 256 / 256 / 2 ^ 4) = 0 := by
      rw [show x / 256 / 256 / 256 / 256 / 2 ^ 4 = 0 by omega]
      rfl
    rw [e6] at e5
    rw [show (8 + 28 : Nat) = 36 by decide] at e1
    rw [show (8 + 20 : Nat) = 28 by decide] at e2
    rw [show (8 + 12 : Nat) = 20 by decide] at e3
    rw [show (8 + 4 : Nat) = 12 by decide] at e4
    rw [show (4 + 4 : Nat) = 8 by decide] at e5
    omega
theorem lUr_of {x : Int} (hx : 0 ≤ x ∧ x < 9223372036854775808) (s : Nat) (hs : s < 64) : lUr x (s : Int) = x / (2 ^ s : Nat) := by
  rw [lUr_is x s hs, show x % 18446744073709551616 = x by omega]
  have h1 : 0 ≤ x / ((2 ^ s : Nat) : Int) := Int.ediv_nonneg hx.1 (Int.natCast_nonneg _)
  have h2 : x / ((2 ^ s : Nat) : Int) ≤ x := Int.ediv_le_self _ hx.1
  generalize x / ((2 ^ s : Nat) : Int) = y at h1 h2 ⊢
  rw [Int.bmod_def]
  split <;> omega
def lPc (x : Int) : Int := (nS 36 x.toNat : Nat)
theorem lPc_R (x : Int) : 0 ≤ lPc x ∧ lPc x ≤ 36 := by
  unfold lPc
  have := nS_le x.toNat 36
  omega
theorem sJ13_bitCount {S : zSh} {h : zMm} {K : Int → zMm → Prop} {v0 : Int} (hv : 0 ≤ v0 ∧ v0 < 68719476736) (w : K (lPc v0) h) : zCi mJ13_bitCount_95d88 [.long (zJ v0)] S h K := by
  refine wJ13_bitCount_95d88 ?_
  have q1 : lUr v0 1 = ((v0.toNat / 2 : Nat) : Int) := by
    have := lUr_of (x := v0) ⟨by omega, by omega⟩ 1 (by decide)
    rw [show ((1 : Nat) : Int) = 1 from rfl] at this
    rw [this]
    omega
  have q2 : v0 - lA (lUr v0 1) 6148914691236517205 = ((nS1 (nM 85 8) v0.toNat : Nat) : Int) := by
    rw [q1, lA_is ⟨by omega, by omega⟩ ⟨by decide, by decide⟩]
    have e : (6148914691236517205 : Int).toNat = nM 85 8 := by decide
    rw [e, show (((v0.toNat / 2 : Nat) : Int)).toNat = v0.toNat / 2 by omega]
    unfold nS1
    have : v0.toNat / 2 &&& nM 85 8 ≤ v0.toNat / 2 := Nat.and_le_left
    omega
  rw [q2]
  have b1 : nS1 (nM 85 8) v0.toNat ≤ v0.toNat := by unfold nS1; omega
  generalize hy : nS1 (nM 85 8) v0.toNat = y at b1 ⊢
  have q3 : lUr (y : Int) 2 = ((y / 4 : Nat) : Int) := by
    have := lUr_of (x := (y : Int)) ⟨by omega, by omega⟩ 2 (by decide)
    rw [show ((2 : Nat) : Int) = 2 from rfl] at this
    rw [this]
    omega
  have e51 : (3689348814741910323 : Int).toNat = nM 51 8 := by decide
  have q4 : lA (y : Int) 3689348814741910323 + lA (lUr (y : Int) 2) 3689348814741910323 = ((nS2 (nM 51 8) y : Nat) : Int) := by
    rw [q3, lA_is ⟨by omega, by omega⟩ ⟨by decide, by decide⟩, lA_is ⟨by omega, by omega⟩ ⟨by decide, by decide⟩, e51, show ((y : Int)).toNat = y by omega, show (((y / 4 : Nat) : Int)).toNat = y / 4 by omega]
    unfold nS2
    omega
  rw [q4]
  have b2 : nS2 (nM 51 8) y ≤ y + y / 4 := by
    unfold nS2
    have h1 : y &&& nM 51 8 ≤ y := Nat.and_le_left
    have h2 : y / 4 &&& nM 51 8 ≤ y / 4 := Nat.and_le_left
    omega
  generalize hz : nS2 (nM 51 8) y = z at b2 ⊢
  have q5 : lUr (z : Int) 4 = ((z / 16 : Nat) : Int) := by
    have := lUr_of (x := (z : Int)) ⟨by omega, by omega⟩ 4 (by decide)
    rw [show ((4 : Nat) : Int) = 4 from rfl] at this
    rw [this]
    omega
  have q6 : lA ((z : Int) + lUr (z : Int) 4) 1085102592571150095 = ((nT 8 v0.toNat : Nat) : Int) := by
    have e : (1085102592571150095 : Int).toNat = nM 15 8 := by decide
    rw [q5, lA_is ⟨by omega, by omega⟩ ⟨by decide, by decide⟩, e, show ((z : Int) + ((z / 16 : Nat) : Int)).toNat = z + z / 16 by omega]
    unfold nT nS3
    rw [hy, hz]
  rw [q6]
  obtain ⟨c0, c1, c2, c3, c4, t0, d0, d1, d2, d3, d4, t1⟩ := nT_is v0.toNat (by omega)
  rw [t0]
  generalize ht : c0 + 256 * (c1 + 256 * (c2 + 256 * (c3 + 256 * c4))) = t
  have q7 : (t : Int) + lUr (t : Int) 8 = ((t + t / 256 : Nat) : Int) := by
    have := lUr_of (x := (t : Int)) ⟨by omega, by omega⟩ 8 (by decide)
    rw [show ((8 : Nat) : Int) = 8 from rfl] at this
    rw [this]
    omega
  rw [q7]
  have f1 : t + t / 256 = c0 + c1 + 256 * (c1 + c2) + 65536 * (c2 + c3) + 16777216 * (c3 + c4) + 4294967296 * c4 := by omega
  rw [f1]
  generalize hu : c0 + c1 + 256 * (c1 + c2) + 65536 * (c2 + c3) + 16777216 * (c3 + c4) + 4294967296 * c4 = u
  have q8 : (u : Int) + lUr (u : Int) 16 = ((u + u / 65536 : Nat) : Int) := by
    have := lUr_of (x := (u : Int)) ⟨by omega, by omega⟩ 16 (by decide)
    rw [show ((16 : Nat) : Int) = 16 from rfl] at this
    rw [this]
    omega
  rw [q8]
  have f2 : u + u / 65536 = c0 + c1 + c2 + c3 + 256 * (c1 + c2 + c3 + c4) + 65536 * (c2 + c3 + c4) + 16777216 * (c3 + c4) + 4294967296 * c4 := by omega
  rw [f2]
  generalize hq : c0 + c1 + c2 + c3 + 256 * (c1 + c2 + c3 + c4) + 65536 * (c2 + c3 + c4) + 16777216 * (c3 + c4) + 4294967296 * c4 = q
  have q9 : ((q : Int) + lUr (q : Int) 32) % 128 = lPc v0 := by
    have := lUr_of (x := (q : Int)) ⟨by omega, by omega⟩ 32 (by decide)
    rw [show ((32 : Nat) : Int) = 32 from rfl] at this
    rw [this]
    unfold lPc
    rw [t1]
    have f3 : q / 2 ^ 32 = c4 := by omega
    omega
  rw [q9]
  exact w
theorem lSr_1 {v k : Int} (hv : 0 ≤ v ∧ v < 68719476736) (hk : 0 ≤ k ∧ k < 36) : lA (lSr v k) 1 = ((v.toNat / 2 ^ k.toNat % 2 : Nat) : Int) := by
  have h1 := lSr_is (v := v) ⟨by omega, by omega⟩ k.toNat (by omega)
  rw [show ((k.toNat : Nat) : Int) = k by omega] at h1
  have h2 : v / ((2 ^ k.toNat : Nat) : Int) = ((v.toNat / 2 ^ k.toNat : Nat) : Int) := by
    rw [Int.natCast_ediv, show ((v.toNat : Nat) : Int) = v by omega]
  have h3 : v.toNat / 2 ^ k.toNat ≤ v.toNat := Nat.div_le_self _ _
  rw [h1, h2]
  generalize v.toNat / 2 ^ k.toNat = q at h3 ⊢
  have h4 := Nat.and_two_pow_sub_one_eq_mod q 1
  rw [lA_is ⟨by omega, by omega⟩ ⟨by decide, by decide⟩, show ((q : Int)).toNat = q by omega, show (1 : Int).toNat = 2 ^ 1 - 1 by decide, h4]
theorem sX12_bitsOf {S : zSh} {h : zMm} {K : Int → zMm → Prop} {v0 : Int} (hv : 0 ≤ v0 ∧ v0 < 68719476736) (w : K (lPc v0) h) : zCi mX12_bitsOf [.long (zJ v0)] S h K := by
  refine wX12_bitsOf ?_
  have key : ∀ (n k : Nat), k + n = 36 → RR mX12_bitsOf 0 0 4 [some (.long (zJ v0)), none, some (.int (zI ((nS k v0.toNat : Nat) : Int))), some (.int (zI (k : Int)))] [] S h (zQi S K) := by
    intro n
    induction n with
    | zero =>
      intro k hk
      refine bX12_bitsOf_4 ⟨⟨by omega, by omega⟩, fun _ => ?_, fun c => absurd (by omega) c⟩
      rw [show k = 36 by omega]
      exact w
    | succ n ih =>
      intro k hk
      have := nS_le v0.toNat k
      refine bX12_bitsOf_4 ⟨⟨by omega, by omega⟩, fun c => absurd c (by omega), fun _ => ⟨⟨by omega, by omega⟩, ?_⟩⟩
      rw [lSr_1 hv ⟨by omega, by omega⟩, show ((k : Int)).toNat = k by omega]
      have e : ((nS k v0.toNat : Nat) : Int) + ((v0.toNat / 2 ^ k % 2 : Nat) : Int) = ((nS (k + 1) v0.toNat : Nat) : Int) := by
        show _ = ((nS k v0.toNat + v0.toNat / 2 ^ k % 2 : Nat) : Int)
        omega
      rw [e, show (k : Int) + 1 = ((k + 1 : Nat) : Int) by omega]
      exact ih (k + 1) (by omega)
  exact key 36 0 (by omega)
/-- the count of those for which P holds -/
theorem nB_bit (P : Nat → Bool) : ∀ n k, k < n → nB P n / 2 ^ k % 2 = if P k = true then 1 else 0 := by
  intro n
  induction n with
  | zero => intro k hk; omega
  | succ n ih =>
    intro k hk
    have h1 := nB_lt P n
    show (nB P n + (if P n = true then 2 ^ n else 0)) / 2 ^ k % 2 = _
    by_cases ck : k = n
    · subst ck
      have hp : 0 < 2 ^ k := Nat.pow_pos (by decide)
      split
      · rw [Nat.add_div_right _ hp, Nat.div_eq_of_lt h1]
      · rw [Nat.add_zero, Nat.div_eq_of_lt h1]
    · have h2 := ih k (by omega)
      have hp : 0 < 2 ^ k := Nat.pow_pos (by decide)
      by_cases cn : P n = true
      · rw [if_pos cn]
        have e : 2 ^ n = 2 ^ k * (2 * 2 ^ (n - k - 1)) := by
          rw [show 2 * 2 ^ (n - k - 1) = 2 ^ (n - k) by rw [← Nat.pow_succ', show (n - k - 1).succ = n - k by omega], ← Nat.pow_add, show k + (n - k) = n by omega]
        rw [e, Nat.add_mul_div_left _ _ hp, ← h2]
        omega
      · rw [if_neg cn, Nat.add_zero]
        exact h2
def zN36 (P : Int → Bool) : Nat → Int
  | 0 => 0
  | n + 1 => if P (n : Int) = true then zN36 P n + 1 else zN36 P n
theorem zN36_R (P : Int → Bool) : ∀ n : Nat, 0 ≤ zN36 P n ∧ zN36 P n ≤ n := by
  intro n
  induction n with
  | zero => exact ⟨Int.le_refl _, Int.le_refl _⟩
  | succ n ih =>
    unfold zN36
    split <;> omega
theorem lPc_zB (P : Int → Bool) : lPc (zB P 36) = zN36 P 36 := by
  have e1 : (zB P 36).toNat = nB (fun k => P (k : Int)) 36 := by unfold zB; omega
  unfold lPc
  rw [e1]
  have key : ∀ n : Nat, n ≤ 36 → ((nS n (nB (fun k => P (k : Int)) 36) : Nat) : Int) = zN36 P n := by
    intro n
    induction n with
    | zero => intro _; rfl
    | succ n ih =>
      intro hn
      have h1 := nB_bit (fun k => P (k : Int)) 36 n (by omega)
      show ((nS n (nB (fun k => P (k : Int)) 36) + nB (fun k => P (k : Int)) 36 / 2 ^ n % 2 : Nat) : Int) = _
      rw [h1]
      have h2 := ih (by omega)
      unfold zN36
      by_cases c : P (n : Int) = true
      · rw [if_pos c, if_pos c]
        omega
      · rw [if_neg c, if_neg c]
        omega
  exact key 36 (by omega)
