/-! TEXT: what was told, as bits -/
theorem zI_nat {z : Int} (hz : 0 ≤ z ∧ z < 2147483648) : (zI z).toBitVec.toNat = z.toNat := by
  have : (((zI z).toBitVec.toNat : Nat) : Int) = z := by
    show ((BitVec.ofInt 32 z).toNat : Int) = _
    rw [BitVec.toNat_ofInt]
    omega
  omega
theorem iO_is {x y : Int} (hx : 0 ≤ x ∧ x < 2147483648) (hy : 0 ≤ y ∧ y < 2147483648) : iO x y = ((x.toNat ||| y.toNat : Nat) : Int) := by
  unfold iO
  show ((zI x).toBitVec ||| (zI y).toBitVec).toInt = _
  rw [BitVec.toInt_eq_toNat_bmod, BitVec.toNat_or, zI_nat hx, zI_nat hy]
  have h1 : x.toNat ||| y.toNat < 2 ^ 31 := Nat.or_lt_two_pow (by omega) (by omega)
  rw [Int.bmod_def]
  split <;> omega
theorem iSl_1 {k : Int} (hk : 0 ≤ k ∧ k < 30) : iSl 1 k = ((2 ^ k.toNat : Nat) : Int) := by
  have : ∀ s : Fin 30, iSl 1 ((s.1 : Nat) : Int) = ((2 ^ s.1 : Nat) : Int) := by decide +kernel
  have := this ⟨k.toNat, by omega⟩
  rw [show (((⟨k.toNat, by omega⟩ : Fin 30).1 : Nat) : Int) = k by show ((k.toNat : Nat) : Int) = k; omega] at this
  exact this
theorem zB_10 (P : Int → Bool) : 0 ≤ zB P 10 ∧ zB P 10 < 1024 := by
  have h := nB_lt (fun k => P (k : Int)) 10
  have h2 : (2 : Nat) ^ 10 = 1024 := by decide
  unfold zB
  omega
theorem zB_orI {P : Int → Bool} {c : Int} (hc : 0 ≤ c ∧ c < 10) : iO (zB P 10) (iSl 1 c) = zB (fun x => P x || decide (x = c)) 10 := by
  have h0 := zB_10 P
  have h9 : (2 : Nat) ^ c.toNat < 2 ^ 10 := Nat.pow_lt_pow_right (by decide) (by omega)
  have h2 : (2 : Nat) ^ 10 = 1024 := by decide
  rw [iSl_1 ⟨by omega, by omega⟩]
  have h8 : (2 : Nat) ^ c.toNat < 1024 := by omega
  have e2 : ((2 ^ c.toNat : Nat) : Int).toNat = 2 ^ c.toNat := Int.toNat_natCast _
  rw [iO_is ⟨by omega, by omega⟩ ⟨Int.natCast_nonneg _, by generalize 2 ^ c.toNat = z at h8 ⊢; omega⟩, e2]
  have e1 : (zB P 10).toNat = nB (fun k => P (k : Int)) 10 := by unfold zB; omega
  rw [e1, nB_or _ _ _ (by omega)]
  unfold zB
  have : (fun k : Nat => P (k : Int) || decide (k = c.toNat)) = (fun k : Nat => P (k : Int) || decide ((k : Int) = c)) := by
    funext k
    have : decide (k = c.toNat) = decide ((k : Int) = c) := by
      rw [Bool.eq_iff_iff]
      simp
      omega
    rw [this]
  rw [this]
theorem zB_bitI {P : Int → Bool} {c : Int} (hc : 0 ≤ c ∧ c < 10) : (iSr (zB P 10) c) % 2 = if P c = true then 1 else 0 := by
  have h0 := zB_10 P
  obtain ⟨k, rfl⟩ := Int.eq_ofNat_of_zero_le hc.1
  have hb := nB_bit (fun k => P (k : Int)) 10 k (by omega)
  rw [iSr_is ⟨by omega, by omega⟩ k (by omega)]
  have e1 : zB P 10 = ((nB (fun k => P (k : Int)) 10 : Nat) : Int) := rfl
  rw [e1, ← Int.natCast_ediv, show ((2 : Int)) = ((2 : Nat) : Int) from rfl, ← Int.natCast_emod, hb]
  split <;> rfl
theorem zB_bitL {P : Int → Bool} {c : Int} (hc : 0 ≤ c ∧ c < 36) : lA (lSr (zB P 36) c) 1 = if P c = true then 1 else 0 := by
  have h0 := zB_R (P := P) (n := 36) (by decide)
  obtain ⟨k, rfl⟩ := Int.eq_ofNat_of_zero_le hc.1
  have hb := nB_bit (fun k => P (k : Int)) 36 k (by omega)
  rw [lSr_is ⟨by omega, by omega⟩ k (by omega)]
  have e1 : zB P 36 = ((nB (fun k => P (k : Int)) 36 : Nat) : Int) := rfl
  rw [e1, ← Int.natCast_ediv]
  have h3 : nB (fun k => P (k : Int)) 36 / 2 ^ k ≤ nB (fun k => P (k : Int)) 36 := Nat.div_le_self _ _
  have h4 : ((nB (fun k => P (k : Int)) 36 : Nat) : Int) < 68719476736 := h0.2
  generalize nB (fun k => P (k : Int)) 36 / 2 ^ k = q at hb h3 ⊢
  rw [lA_is ⟨by omega, by omega⟩ ⟨by decide, by decide⟩]
  have e5 : ((q : Nat) : Int).toNat &&& (1 : Int).toNat = q % 2 := by
    rw [Int.toNat_natCast]
    exact Nat.and_one_is_mod q
  rw [e5, hb]
  split <;> rfl
