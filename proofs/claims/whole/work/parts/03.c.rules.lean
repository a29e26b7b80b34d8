theorem zI_add (x y : Int) : zI x + zI y = zI (x + y) := (Int32.ofInt_add x y).symm
theorem zI_sub (x y : Int) : zI x - zI y = zI (x - y) := (Int32.ofInt_sub x y).symm
theorem zI_mul (x y : Int) : zI x * zI y = zI (x * y) := (Int32.ofInt_mul x y).symm
theorem zJ_add (x y : Int) : zJ x + zJ y = zJ (x + y) := (Int64.ofInt_add x y).symm
theorem zJ_sub (x y : Int) : zJ x - zJ y = zJ (x - y) := (Int64.ofInt_sub x y).symm
theorem zJ_mul (x y : Int) : zJ x * zJ y = zJ (x * y) := (Int64.ofInt_mul x y).symm
theorem zI_to {x : Int} (h : zR x) : (zI x).toInt = x := Int32.toInt_ofInt_of_le (by unfold zR at h; omega) (by unfold zR at h; omega)
theorem zJ_to {x : Int} (h : zRl x) : (zJ x).toInt = x := Int64.toInt_ofInt_of_le (by unfold zRl at h; omega) (by unfold zRl at h; omega)
theorem zI_of (x : Int32) : zI x.toInt = x := Int32.ofInt_toInt x
theorem zJ_of (x : Int64) : zJ x.toInt = x := Int64.ofInt_toInt x
theorem zR_to (x : Int32) : zR x.toInt := ⟨by have := x.le_toInt; omega, by have := x.toInt_lt; omega⟩
theorem zRl_to (x : Int64) : zRl x.toInt := ⟨by have := x.le_toInt; omega, by have := x.toInt_lt; omega⟩
theorem zI_lt {x y : Int} (hx : zR x) (hy : zR y) : zI x < zI y ↔ x < y := by rw [Int32.lt_iff_toInt_lt, zI_to hx, zI_to hy]
theorem zI_le {x y : Int} (hx : zR x) (hy : zR y) : zI x ≤ zI y ↔ x ≤ y := by rw [Int32.le_iff_toInt_le, zI_to hx, zI_to hy]
theorem zI_eq {x y : Int} (hx : zR x) (hy : zR y) : zI x = zI y ↔ x = y := by
  rw [← Int32.toInt_inj, zI_to hx, zI_to hy]
theorem zI_clamp {x : Int} (h : zR x) : (zI x).toNatClampNeg = x.toNat := Int32.toNatClampNeg_ofInt_of_le (by unfold zR at h; omega) (by unfold zR at h; omega)
theorem zI_0 : (0 : Int32) = zI 0 := rfl
theorem zI_in {i : Int} {N : Nat} (hN : N < 2147483648) (h0 : 0 ≤ i) (h1 : i < (N : Int)) : vp_in (zI i) N := by
  have hr : zR i := ⟨by omega, by omega⟩
  rintro (hz | hz)
  · rw [zI_0, zI_lt hr (by decide)] at hz
    omega
  · rw [zI_clamp hr] at hz
    omega
/-- bits -/
def iA (x y : Int) : Int := (zI x &&& zI y).toInt
def iO (x y : Int) : Int := (zI x ||| zI y).toInt
def iX (x y : Int) : Int := (zI x ^^^ zI y).toInt
def iSl (x y : Int) : Int := (zI x <<< (zI y &&& 31)).toInt
def iSr (x y : Int) : Int := (zI x >>> (zI y &&& 31)).toInt
def iB (x : Int) : Int := (zI x).toInt8.toInt
def iT (x : Int) : Int := (zI x).toInt16.toInt
def lA (x y : Int) : Int := (zJ x &&& zJ y).toInt
def lO (x y : Int) : Int := (zJ x ||| zJ y).toInt
def lX (x y : Int) : Int := (zJ x ^^^ zJ y).toInt
def lSl (x y : Int) : Int := (zJ x <<< ((zI y).toInt64 &&& 63)).toInt
def lSr (x y : Int) : Int := (zJ x >>> ((zI y).toInt64 &&& 63)).toInt
def zCmp (x y : Int) : Int := if x < y then -1 else if x = y then 0 else 1

theorem r_iconst {μ : zMi} {k n pc : Nat} {L : List (Option Value)} {st : List Value} {S : zSh} {h : zMm} {Q : Option Value → zSh → zMm → Prop} {i : Int} (hd : decode μ.2.1 pc = .ok (.iconst i, 1)) (kk : RR μ k n (pc + 1) L (.int (zI i) :: st) S h Q) : RR μ k n pc L st S h Q := by
  intro p l e s m args below meth c dC dI ca ρ B A Z H locs ls hC hG hN hH hL
  exact lv_iconst hC.1 hC.2.1 hd rfl (kk p l e s m args below meth c dC dI ca ρ B A Z H locs ls hC hG hN hH hL)
theorem r_bipush {μ : zMi} {k n pc : Nat} {L : List (Option Value)} {st : List Value} {S : zSh} {h : zMm} {Q : Option Value → zSh → zMm → Prop} {i x : Int} (hd : decode μ.2.1 pc = .ok (.bipush i, 2)) (hx : (Int8.ofInt i).toInt32 = zI x) (kk : RR μ k n (pc + 2) L (.int (zI x) :: st) S h Q) : RR μ k n pc L st S h Q := by
  intro p l e s m args below meth c dC dI ca ρ B A Z H locs ls hC hG hN hH hL
  exact lv_bipush hC.1 hC.2.1 hd hx (kk p l e s m args below meth c dC dI ca ρ B A Z H locs ls hC hG hN hH hL)
theorem r_sipush {μ : zMi} {k n pc : Nat} {L : List (Option Value)} {st : List Value} {S : zSh} {h : zMm} {Q : Option Value → zSh → zMm → Prop} {i x : Int} (hd : decode μ.2.1 pc = .ok (.sipush i, 3)) (hx : (Int16.ofInt i).toInt32 = zI x) (kk : RR μ k n (pc + 3) L (.int (zI x) :: st) S h Q) : RR μ k n pc L st S h Q := by
  intro p l e s m args below meth c dC dI ca ρ B A Z H locs ls hC hG hN hH hL
  exact lv_sipush hC.1 hC.2.1 hd hx (kk p l e s m args below meth c dC dI ca ρ B A Z H locs ls hC hG hN hH hL)
theorem r_lconst {μ : zMi} {k n pc : Nat} {L : List (Option Value)} {st : List Value} {S : zSh} {h : zMm} {Q : Option Value → zSh → zMm → Prop} {i : Fin 2} {x : Int} (hd : decode μ.2.1 pc = .ok (.lconst i, 1)) (hx : Int64.ofNat (i : Nat) = zJ x) (kk : RR μ k n (pc + 1) L (.long (zJ x) :: st) S h Q) : RR μ k n pc L st S h Q := by
  intro p l e s m args below meth c dC dI ca ρ B A Z H locs ls hC hG hN hH hL
  exact lv_lconst hC.1 hC.2.1 hd hx (kk p l e s m args below meth c dC dI ca ρ B A Z H locs ls hC hG hN hH hL)
theorem r_ldcI {μ : zMi} {k n pc : Nat} {L : List (Option Value)} {st : List Value} {S : zSh} {h : zMm} {Q : Option Value → zSh → zMm → Prop} {i : Nat} {x : Int} (hd : decode μ.2.1 pc = .ok (.ldc i, 2)) (hw : Cond.constant μ.1.cls i (zI x) ∈ zTb) (kk : RR μ k n (pc + 2) L (.int (zI x) :: st) S h Q) : RR μ k n pc L st S h Q := by
  intro p l e s m args below meth c dC dI ca ρ B A Z H locs ls hC hG hN hH hL
  exact lv_ldc hC.1 hC.2.1 hC.2.2.2.2.1 (hC.2.2.2.2.2.1 _ hw) hd (kk p l e s m args below meth c dC dI ca ρ B A Z H locs ls hC hG hN hH hL)
theorem r_ldcW {μ : zMi} {k n pc : Nat} {L : List (Option Value)} {st : List Value} {S : zSh} {h : zMm} {Q : Option Value → zSh → zMm → Prop} {i : Nat} {x : Int} (hd : decode μ.2.1 pc = .ok (.ldc_w i, 3)) (hw : Cond.constant μ.1.cls i (zI x) ∈ zTb) (kk : RR μ k n (pc + 3) L (.int (zI x) :: st) S h Q) : RR μ k n pc L st S h Q := by
  intro p l e s m args below meth c dC dI ca ρ B A Z H locs ls hC hG hN hH hL
  exact lv_ldcw hC.1 hC.2.1 hC.2.2.2.2.1 (hC.2.2.2.2.2.1 _ hw) hd (kk p l e s m args below meth c dC dI ca ρ B A Z H locs ls hC hG hN hH hL)
theorem r_ldcL {μ : zMi} {k n pc : Nat} {L : List (Option Value)} {st : List Value} {S : zSh} {h : zMm} {Q : Option Value → zSh → zMm → Prop} {i : Nat} {x : Int} (hd : decode μ.2.1 pc = .ok (.ldc2_w i, 3)) (hw : Cond.constantLong μ.1.cls i (zJ x) ∈ zTb) (kk : RR μ k n (pc + 3) L (.long (zJ x) :: st) S h Q) : RR μ k n pc L st S h Q := by
  intro p l e s m args below meth c dC dI ca ρ B A Z H locs ls hC hG hN hH hL
  exact lv_ldc2 hC.1 hC.2.1 hC.2.2.2.2.1 (hC.2.2.2.2.2.1 _ hw) hd (kk p l e s m args below meth c dC dI ca ρ B A Z H locs ls hC hG hN hH hL)
theorem r_ldcS {μ : zMi} {k n pc : Nat} {L : List (Option Value)} {st : List Value} {S : zSh} {h : zMm} {Q : Option Value → zSh → zMm → Prop} {i : Nat} {q : Nat × String × Nat} (hd : decode μ.2.1 pc = .ok (.ldc i, 2)) (hq : q ∈ zSr) (hi : q.1 = i) (hc : μ.1.cls = RX9) (kk : RR μ k n (pc + 2) L (.ref (1000 + q.2.2) :: st) S h Q) : RR μ k n pc L st S h Q := by
  intro p l e s m args below meth c dC dI ca ρ B A Z H locs ls hC hG hN hH hL
  subst hi
  exact va_ldcS hC.1 hC.2.1 (own := RX9) (by rw [← hc]; exact hC.2.2.2.2.1) (hC.2.2.2.2.2.2.2.2.2.2.2.2.1.1 q hq) hd (kk p l e s m args below meth c dC dI ca ρ B A Z H locs ls hC hG hN hH hL)

theorem r_iload_n {μ : zMi} {k n pc : Nat} {L : List (Option Value)} {st : List Value} {S : zSh} {h : zMm} {Q : Option Value → zSh → zMm → Prop} {j : Fin 4} {x : Int} (hd : decode μ.2.1 pc = .ok (.iload_n j, 1)) (hl : L[(j : Nat)]? = some (some (.int (zI x)))) (kk : RR μ k n (pc + 1) L (.int (zI x) :: st) S h Q) : RR μ k n pc L st S h Q := by
  intro p l e s m args below meth c dC dI ca ρ B A Z H locs ls hC hG hN hH hL
  exact lv_iload_n hC.1 hC.2.1 hd rfl (hL.2.2 _ _ hl) (kk p l e s m args below meth c dC dI ca ρ B A Z H locs ls hC hG hN hH hL)
theorem r_iload {μ : zMi} {k n pc : Nat} {L : List (Option Value)} {st : List Value} {S : zSh} {h : zMm} {Q : Option Value → zSh → zMm → Prop} {j : Nat} {x : Int} (hd : decode μ.2.1 pc = .ok (.iload j, 2)) (hl : L[j]? = some (some (.int (zI x)))) (kk : RR μ k n (pc + 2) L (.int (zI x) :: st) S h Q) : RR μ k n pc L st S h Q := by
  intro p l e s m args below meth c dC dI ca ρ B A Z H locs ls hC hG hN hH hL
  exact lv_iload hC.1 hC.2.1 hd (hL.2.2 _ _ hl) (kk p l e s m args below meth c dC dI ca ρ B A Z H locs ls hC hG hN hH hL)

theorem r_lload_n {μ : zMi} {k n pc : Nat} {L : List (Option Value)} {st : List Value} {S : zSh} {h : zMm} {Q : Option Value → zSh → zMm → Prop} {j : Fin 4} {x : Int} (hd : decode μ.2.1 pc = .ok (.lload_n j, 1)) (hl : L[(j : Nat)]? = some (some (.long (zJ x)))) (kk : RR μ k n (pc + 1) L (.long (zJ x) :: st) S h Q) : RR μ k n pc L st S h Q := by
  intro p l e s m args below meth c dC dI ca ρ B A Z H locs ls hC hG hN hH hL
  exact lv_lload_n hC.1 hC.2.1 hd rfl (hL.2.2 _ _ hl) (kk p l e s m args below meth c dC dI ca ρ B A Z H locs ls hC hG hN hH hL)
theorem r_lload {μ : zMi} {k n pc : Nat} {L : List (Option Value)} {st : List Value} {S : zSh} {h : zMm} {Q : Option Value → zSh → zMm → Prop} {j : Nat} {x : Int} (hd : decode μ.2.1 pc = .ok (.lload j, 2)) (hl : L[j]? = some (some (.long (zJ x)))) (kk : RR μ k n (pc + 2) L (.long (zJ x) :: st) S h Q) : RR μ k n pc L st S h Q := by
  intro p l e s m args below meth c dC dI ca ρ B A Z H locs ls hC hG hN hH hL
  exact lv_lload hC.1 hC.2.1 hd (hL.2.2 _ _ hl) (kk p l e s m args below meth c dC dI ca ρ B A Z H locs ls hC hG hN hH hL)

theorem r_aload_n {μ : zMi} {k n pc : Nat} {L : List (Option Value)} {st : List Value} {S : zSh} {h : zMm} {Q : Option Value → zSh → zMm → Prop} {j : Fin 4} {a : Nat} (hd : decode μ.2.1 pc = .ok (.aload_n j, 1)) (hl : L[(j : Nat)]? = some (some (.ref a))) (kk : RR μ k n (pc + 1) L (.ref a :: st) S h Q) : RR μ k n pc L st S h Q := by
  intro p l e s m args below meth c dC dI ca ρ B A Z H locs ls hC hG hN hH hL
  exact lv_aload_n hC.1 hC.2.1 hd rfl (hL.2.2 _ _ hl) (kk p l e s m args below meth c dC dI ca ρ B A Z H locs ls hC hG hN hH hL)
theorem r_aload {μ : zMi} {k n pc : Nat} {L : List (Option Value)} {st : List Value} {S : zSh} {h : zMm} {Q : Option Value → zSh → zMm → Prop} {j : Nat} {a : Nat} (hd : decode μ.2.1 pc = .ok (.aload j, 2)) (hl : L[j]? = some (some (.ref a))) (kk : RR μ k n (pc + 2) L (.ref a :: st) S h Q) : RR μ k n pc L st S h Q := by
  intro p l e s m args below meth c dC dI ca ρ B A Z H locs ls hC hG hN hH hL
  exact lv_aload hC.1 hC.2.1 hd (hL.2.2 _ _ hl) (kk p l e s m args below meth c dC dI ca ρ B A Z H locs ls hC hG hN hH hL)

theorem r_istore_n {μ : zMi} {k n pc : Nat} {L : List (Option Value)} {st : List Value} {S : zSh} {h : zMm} {Q : Option Value → zSh → zMm → Prop} {j : Fin 4} {x : Int} {L' : List (Option Value)} (hd : decode μ.2.1 pc = .ok (.istore_n j, 1)) (hn : (j : Nat) < μ.2.2.1) (hl : zS1 L (j : Nat) (.int (zI x)) = L') (kk : RR μ k n (pc + 1) L' st S h Q) : RR μ k n pc L (.int (zI x) :: st) S h Q := by
  intro p l e s m args below meth c dC dI ca ρ B A Z H locs ls hC hG hN hH hL
  exact lv_istore_n hC.1 hC.2.1 hd rfl hL.has hn rfl (fun ls' h' => (kk p l e s m args below meth c dC dI ca ρ B A Z H locs ls' hC hG hN hH (zLs.st1 hl h')))

theorem r_istore {μ : zMi} {k n pc : Nat} {L : List (Option Value)} {st : List Value} {S : zSh} {h : zMm} {Q : Option Value → zSh → zMm → Prop} {j : Nat} {x : Int} {L' : List (Option Value)} (hd : decode μ.2.1 pc = .ok (.istore j, 2)) (hn : (j : Nat) < μ.2.2.1) (hl : zS1 L j (.int (zI x)) = L') (kk : RR μ k n (pc + 2) L' st S h Q) : RR μ k n pc L (.int (zI x) :: st) S h Q := by
  intro p l e s m args below meth c dC dI ca ρ B A Z H locs ls hC hG hN hH hL
  exact lv_istore hC.1 hC.2.1 hd  hL.has hn rfl (fun ls' h' => (kk p l e s m args below meth c dC dI ca ρ B A Z H locs ls' hC hG hN hH (zLs.st1 hl h')))

theorem r_lstore_n {μ : zMi} {k n pc : Nat} {L : List (Option Value)} {st : List Value} {S : zSh} {h : zMm} {Q : Option Value → zSh → zMm → Prop} {j : Fin 4} {x : Int} {L' : List (Option Value)} (hd : decode μ.2.1 pc = .ok (.lstore_n j, 1)) (hn : (j : Nat) + 1 < μ.2.2.1) (hl : zS2 L (j : Nat) (.long (zJ x)) = L') (kk : RR μ k n (pc + 1) L' st S h Q) : RR μ k n pc L (.long (zJ x) :: st) S h Q := by
  intro p l e s m args below meth c dC dI ca ρ B A Z H locs ls hC hG hN hH hL
  exact lv_lstore_n hC.1 hC.2.1 hd rfl hL.has hn rfl (fun ls' h' => (kk p l e s m args below meth c dC dI ca ρ B A Z H locs ls' hC hG hN hH (zLs.st2 hl h')))

theorem r_lstore {μ : zMi} {k n pc : Nat} {L : List (Option Value)} {st : List Value} {S : zSh} {h : zMm} {Q : Option Value → zSh → zMm → Prop} {j : Nat} {x : Int} {L' : List (Option Value)} (hd : decode μ.2.1 pc = .ok (.lstore j, 2)) (hn : (j : Nat) + 1 < μ.2.2.1) (hl : zS2 L j (.long (zJ x)) = L') (kk : RR μ k n (pc + 2) L' st S h Q) : RR μ k n pc L (.long (zJ x) :: st) S h Q := by
  intro p l e s m args below meth c dC dI ca ρ B A Z H locs ls hC hG hN hH hL
  exact lv_lstore hC.1 hC.2.1 hd  hL.has hn rfl (fun ls' h' => (kk p l e s m args below meth c dC dI ca ρ B A Z H locs ls' hC hG hN hH (zLs.st2 hl h')))

theorem r_astore_n {μ : zMi} {k n pc : Nat} {L : List (Option Value)} {st : List Value} {S : zSh} {h : zMm} {Q : Option Value → zSh → zMm → Prop} {j : Fin 4} {x : Nat} {L' : List (Option Value)} (hd : decode μ.2.1 pc = .ok (.astore_n j, 1)) (hn : (j : Nat) < μ.2.2.1) (hl : zS1 L (j : Nat) (.ref x) = L') (kk : RR μ k n (pc + 1) L' st S h Q) : RR μ k n pc L (.ref x :: st) S h Q := by
  intro p l e s m args below meth c dC dI ca ρ B A Z H locs ls hC hG hN hH hL
  exact lv_astore_n hC.1 hC.2.1 hd rfl hL.has hn rfl (fun ls' h' => (kk p l e s m args below meth c dC dI ca ρ B A Z H locs ls' hC hG hN hH (zLs.st1 hl h')))

theorem r_astore {μ : zMi} {k n pc : Nat} {L : List (Option Value)} {st : List Value} {S : zSh} {h : zMm} {Q : Option Value → zSh → zMm → Prop} {j : Nat} {x : Nat} {L' : List (Option Value)} (hd : decode μ.2.1 pc = .ok (.astore j, 2)) (hn : (j : Nat) < μ.2.2.1) (hl : zS1 L j (.ref x) = L') (kk : RR μ k n (pc + 2) L' st S h Q) : RR μ k n pc L (.ref x :: st) S h Q := by
  intro p l e s m args below meth c dC dI ca ρ B A Z H locs ls hC hG hN hH hL
  exact lv_astore hC.1 hC.2.1 hd  hL.has hn rfl (fun ls' h' => (kk p l e s m args below meth c dC dI ca ρ B A Z H locs ls' hC hG hN hH (zLs.st1 hl h')))

theorem r_iinc {μ : zMi} {k n pc : Nat} {L : List (Option Value)} {st : List Value} {S : zSh} {h : zMm} {Q : Option Value → zSh → zMm → Prop} {j : Nat} {i x : Int} {L' : List (Option Value)} (hd : decode μ.2.1 pc = .ok (.iinc j i, 3)) (hg : L[j]? = some (some (.int (zI x)))) (hn : j < μ.2.2.1) (hl : zS1 L j (.int (zI (x + i))) = L') (kk : RR μ k n (pc + 3) L' st S h Q) : RR μ k n pc L st S h Q := by
  intro p l e s m args below meth c dC dI ca ρ B A Z H locs ls hC hG hN hH hL
  have hm := zAs_mem (ρ := ρ) (b := 0) hg
  obtain ⟨q, hq⟩ := List.getElem?_of_mem hm
  rw [Nat.zero_add] at hq
  exact lv_iinc (v := zI (x + i)) hC.1 hC.2.1 hd hL.has hq (zI_add x i) hn rfl (fun ls' h' => (kk p l e s m args below meth c dC dI ca ρ B A Z H locs ls' hC hG hN hH (zLs.st1 hl h')))

theorem r_iadd {μ : zMi} {k n pc : Nat} {L : List (Option Value)} {st : List Value} {S : zSh} {h : zMm} {Q : Option Value → zSh → zMm → Prop} {x y : Int} (hd : decode μ.2.1 pc = .ok (.iadd, 1)) (kk : RR μ k n (pc + 1) L (.int (zI (x + y)) :: st) S h Q) : RR μ k n pc L (.int (zI y) :: .int (zI x) :: st) S h Q := by
  intro p l e s m args below meth c dC dI ca ρ B A Z H locs ls hC hG hN hH hL
  refine lv_iadd hC.1 hC.2.1 hd ?_
  rw [zI_add]
  exact (kk p l e s m args below meth c dC dI ca ρ B A Z H locs ls hC hG hN hH hL)

theorem r_isub {μ : zMi} {k n pc : Nat} {L : List (Option Value)} {st : List Value} {S : zSh} {h : zMm} {Q : Option Value → zSh → zMm → Prop} {x y : Int} (hd : decode μ.2.1 pc = .ok (.isub, 1)) (kk : RR μ k n (pc + 1) L (.int (zI (x - y)) :: st) S h Q) : RR μ k n pc L (.int (zI y) :: .int (zI x) :: st) S h Q := by
  intro p l e s m args below meth c dC dI ca ρ B A Z H locs ls hC hG hN hH hL
  refine lv_isub hC.1 hC.2.1 hd ?_
  rw [zI_sub]
  exact (kk p l e s m args below meth c dC dI ca ρ B A Z H locs ls hC hG hN hH hL)

theorem r_imul {μ : zMi} {k n pc : Nat} {L : List (Option Value)} {st : List Value} {S : zSh} {h : zMm} {Q : Option Value → zSh → zMm → Prop} {x y : Int} (hd : decode μ.2.1 pc = .ok (.imul, 1)) (kk : RR μ k n (pc + 1) L (.int (zI (x * y)) :: st) S h Q) : RR μ k n pc L (.int (zI y) :: .int (zI x) :: st) S h Q := by
  intro p l e s m args below meth c dC dI ca ρ B A Z H locs ls hC hG hN hH hL
  refine lv_imul hC.1 hC.2.1 hd ?_
  rw [zI_mul]
  exact (kk p l e s m args below meth c dC dI ca ρ B A Z H locs ls hC hG hN hH hL)

theorem r_ladd {μ : zMi} {k n pc : Nat} {L : List (Option Value)} {st : List Value} {S : zSh} {h : zMm} {Q : Option Value → zSh → zMm → Prop} {x y : Int} (hd : decode μ.2.1 pc = .ok (.ladd, 1)) (kk : RR μ k n (pc + 1) L (.long (zJ (x + y)) :: st) S h Q) : RR μ k n pc L (.long (zJ y) :: .long (zJ x) :: st) S h Q := by
  intro p l e s m args below meth c dC dI ca ρ B A Z H locs ls hC hG hN hH hL
  refine lv_ladd hC.1 hC.2.1 hd ?_
  rw [zJ_add]
  exact (kk p l e s m args below meth c dC dI ca ρ B A Z H locs ls hC hG hN hH hL)

theorem r_lsub {μ : zMi} {k n pc : Nat} {L : List (Option Value)} {st : List Value} {S : zSh} {h : zMm} {Q : Option Value → zSh → zMm → Prop} {x y : Int} (hd : decode μ.2.1 pc = .ok (.lsub, 1)) (kk : RR μ k n (pc + 1) L (.long (zJ (x - y)) :: st) S h Q) : RR μ k n pc L (.long (zJ y) :: .long (zJ x) :: st) S h Q := by
  intro p l e s m args below meth c dC dI ca ρ B A Z H locs ls hC hG hN hH hL
  refine lv_lsub hC.1 hC.2.1 hd ?_
  rw [zJ_sub]
  exact (kk p l e s m args below meth c dC dI ca ρ B A Z H locs ls hC hG hN hH hL)

theorem r_lmul {μ : zMi} {k n pc : Nat} {L : List (Option Value)} {st : List Value} {S : zSh} {h : zMm} {Q : Option Value → zSh → zMm → Prop} {x y : Int} (hd : decode μ.2.1 pc = .ok (.lmul, 1)) (kk : RR μ k n (pc + 1) L (.long (zJ (x * y)) :: st) S h Q) : RR μ k n pc L (.long (zJ y) :: .long (zJ x) :: st) S h Q := by
  intro p l e s m args below meth c dC dI ca ρ B A Z H locs ls hC hG hN hH hL
  refine lv_lmul hC.1 hC.2.1 hd ?_
  rw [zJ_mul]
  exact (kk p l e s m args below meth c dC dI ca ρ B A Z H locs ls hC hG hN hH hL)

theorem r_iand {μ : zMi} {k n pc : Nat} {L : List (Option Value)} {st : List Value} {S : zSh} {h : zMm} {Q : Option Value → zSh → zMm → Prop} {x y : Int} (hd : decode μ.2.1 pc = .ok (.iand, 1)) (kk : RR μ k n (pc + 1) L (.int (zI (iA x y)) :: st) S h Q) : RR μ k n pc L (.int (zI y) :: .int (zI x) :: st) S h Q := by
  intro p l e s m args below meth c dC dI ca ρ B A Z H locs ls hC hG hN hH hL
  refine lv_iand hC.1 hC.2.1 hd ?_
  have h1 := (kk p l e s m args below meth c dC dI ca ρ B A Z H locs ls hC hG hN hH hL)
  unfold iA at h1
  rw [zI_of] at h1
  exact h1

theorem r_ior {μ : zMi} {k n pc : Nat} {L : List (Option Value)} {st : List Value} {S : zSh} {h : zMm} {Q : Option Value → zSh → zMm → Prop} {x y : Int} (hd : decode μ.2.1 pc = .ok (.ior, 1)) (kk : RR μ k n (pc + 1) L (.int (zI (iO x y)) :: st) S h Q) : RR μ k n pc L (.int (zI y) :: .int (zI x) :: st) S h Q := by
  intro p l e s m args below meth c dC dI ca ρ B A Z H locs ls hC hG hN hH hL
  refine lv_ior hC.1 hC.2.1 hd ?_
  have h1 := (kk p l e s m args below meth c dC dI ca ρ B A Z H locs ls hC hG hN hH hL)
  unfold iO at h1
  rw [zI_of] at h1
  exact h1

theorem r_ixor {μ : zMi} {k n pc : Nat} {L : List (Option Value)} {st : List Value} {S : zSh} {h : zMm} {Q : Option Value → zSh → zMm → Prop} {x y : Int} (hd : decode μ.2.1 pc = .ok (.ixor, 1)) (kk : RR μ k n (pc + 1) L (.int (zI (iX x y)) :: st) S h Q) : RR μ k n pc L (.int (zI y) :: .int (zI x) :: st) S h Q := by
  intro p l e s m args below meth c dC dI ca ρ B A Z H locs ls hC hG hN hH hL
  refine lv_ixor hC.1 hC.2.1 hd ?_
  have h1 := (kk p l e s m args below meth c dC dI ca ρ B A Z H locs ls hC hG hN hH hL)
  unfold iX at h1
  rw [zI_of] at h1
  exact h1

theorem r_ishl {μ : zMi} {k n pc : Nat} {L : List (Option Value)} {st : List Value} {S : zSh} {h : zMm} {Q : Option Value → zSh → zMm → Prop} {x y : Int} (hd : decode μ.2.1 pc = .ok (.ishl, 1)) (kk : RR μ k n (pc + 1) L (.int (zI (iSl x y)) :: st) S h Q) : RR μ k n pc L (.int (zI y) :: .int (zI x) :: st) S h Q := by
  intro p l e s m args below meth c dC dI ca ρ B A Z H locs ls hC hG hN hH hL
  refine lv_ishl hC.1 hC.2.1 hd ?_
  have h1 := (kk p l e s m args below meth c dC dI ca ρ B A Z H locs ls hC hG hN hH hL)
  unfold iSl at h1
  rw [zI_of] at h1
  exact h1

theorem r_ishr {μ : zMi} {k n pc : Nat} {L : List (Option Value)} {st : List Value} {S : zSh} {h : zMm} {Q : Option Value → zSh → zMm → Prop} {x y : Int} (hd : decode μ.2.1 pc = .ok (.ishr, 1)) (kk : RR μ k n (pc + 1) L (.int (zI (iSr x y)) :: st) S h Q) : RR μ k n pc L (.int (zI y) :: .int (zI x) :: st) S h Q := by
  intro p l e s m args below meth c dC dI ca ρ B A Z H locs ls hC hG hN hH hL
  refine lv_ishr hC.1 hC.2.1 hd ?_
  have h1 := (kk p l e s m args below meth c dC dI ca ρ B A Z H locs ls hC hG hN hH hL)
  unfold iSr at h1
  rw [zI_of] at h1
  exact h1

theorem r_land {μ : zMi} {k n pc : Nat} {L : List (Option Value)} {st : List Value} {S : zSh} {h : zMm} {Q : Option Value → zSh → zMm → Prop} {x y : Int} (hd : decode μ.2.1 pc = .ok (.land, 1)) (kk : RR μ k n (pc + 1) L (.long (zJ (lA x y)) :: st) S h Q) : RR μ k n pc L (.long (zJ y) :: .long (zJ x) :: st) S h Q := by
  intro p l e s m args below meth c dC dI ca ρ B A Z H locs ls hC hG hN hH hL
  refine lv_land hC.1 hC.2.1 hd ?_
  have h1 := (kk p l e s m args below meth c dC dI ca ρ B A Z H locs ls hC hG hN hH hL)
  unfold lA at h1
  rw [zJ_of] at h1
  exact h1

theorem r_lor {μ : zMi} {k n pc : Nat} {L : List (Option Value)} {st : List Value} {S : zSh} {h : zMm} {Q : Option Value → zSh → zMm → Prop} {x y : Int} (hd : decode μ.2.1 pc = .ok (.lor, 1)) (kk : RR μ k n (pc + 1) L (.long (zJ (lO x y)) :: st) S h Q) : RR μ k n pc L (.long (zJ y) :: .long (zJ x) :: st) S h Q := by
  intro p l e s m args below meth c dC dI ca ρ B A Z H locs ls hC hG hN hH hL
  refine lv_lor hC.1 hC.2.1 hd ?_
  have h1 := (kk p l e s m args below meth c dC dI ca ρ B A Z H locs ls hC hG hN hH hL)
  unfold lO at h1
  rw [zJ_of] at h1
  exact h1

theorem r_lxor {μ : zMi} {k n pc : Nat} {L : List (Option Value)} {st : List Value} {S : zSh} {h : zMm} {Q : Option Value → zSh → zMm → Prop} {x y : Int} (hd : decode μ.2.1 pc = .ok (.lxor, 1)) (kk : RR μ k n (pc + 1) L (.long (zJ (lX x y)) :: st) S h Q) : RR μ k n pc L (.long (zJ y) :: .long (zJ x) :: st) S h Q := by
  intro p l e s m args below meth c dC dI ca ρ B A Z H locs ls hC hG hN hH hL
  refine lv_lxor hC.1 hC.2.1 hd ?_
  have h1 := (kk p l e s m args below meth c dC dI ca ρ B A Z H locs ls hC hG hN hH hL)
  unfold lX at h1
  rw [zJ_of] at h1
  exact h1

theorem r_lshl {μ : zMi} {k n pc : Nat} {L : List (Option Value)} {st : List Value} {S : zSh} {h : zMm} {Q : Option Value → zSh → zMm → Prop} {x y : Int} (hd : decode μ.2.1 pc = .ok (.lshl, 1)) (kk : RR μ k n (pc + 1) L (.long (zJ (lSl x y)) :: st) S h Q) : RR μ k n pc L (.int (zI y) :: .long (zJ x) :: st) S h Q := by
  intro p l e s m args below meth c dC dI ca ρ B A Z H locs ls hC hG hN hH hL
  refine lv_lshl hC.1 hC.2.1 hd rfl ?_
  have h1 := (kk p l e s m args below meth c dC dI ca ρ B A Z H locs ls hC hG hN hH hL)
  unfold lSl at h1
  rw [zJ_of] at h1
  exact h1

theorem r_lshr {μ : zMi} {k n pc : Nat} {L : List (Option Value)} {st : List Value} {S : zSh} {h : zMm} {Q : Option Value → zSh → zMm → Prop} {x y : Int} (hd : decode μ.2.1 pc = .ok (.lshr, 1)) (kk : RR μ k n (pc + 1) L (.long (zJ (lSr x y)) :: st) S h Q) : RR μ k n pc L (.int (zI y) :: .long (zJ x) :: st) S h Q := by
  intro p l e s m args below meth c dC dI ca ρ B A Z H locs ls hC hG hN hH hL
  refine lv_lshr hC.1 hC.2.1 hd rfl ?_
  have h1 := (kk p l e s m args below meth c dC dI ca ρ B A Z H locs ls hC hG hN hH hL)
  unfold lSr at h1
  rw [zJ_of] at h1
  exact h1

/-- a mask of low bits -/
theorem zI_mask (x : Int) (j : Nat) (hj : j < 31) : zI x &&& zI ((2 ^ j - 1 : Nat) : Int) = zI (x % ((2 ^ j : Nat) : Int)) := by
  have h1 : (0 : Nat) < 2 ^ j := Nat.two_pow_pos j
  have h2 : (2 : Nat) ^ j < 2147483648 := Nat.lt_of_lt_of_le (Nat.pow_lt_pow_right (by decide) hj) (Nat.le_of_ble_eq_true rfl)
  apply Int32.toBitVec.inj
  rw [Int32.toBitVec_and]
  have e : ∀ z : Int, (zI z).toBitVec = BitVec.ofInt 32 z := fun z => rfl
  rw [e, e, e]
  apply BitVec.eq_of_toNat_eq
  rw [BitVec.toNat_and, BitVec.toNat_ofInt, BitVec.toNat_ofInt, BitVec.toNat_ofInt]
  have e1 : (((2 ^ j - 1 : Nat) : Int) % ((2 ^ 32 : Nat) : Int)).toNat = 2 ^ j - 1 := by
    rw [← Int.natCast_emod, Int.toNat_natCast, Nat.mod_eq_of_lt (by omega)]
  rw [e1, Nat.and_two_pow_sub_one_eq_mod]
  have h3 : (0 : Int) < ((2 ^ j : Nat) : Int) := by exact_mod_cast h1
  have h4 : ((2 ^ j : Nat) : Int) < 2147483648 := Int.ofNat_lt.mpr h2
  have h5 : 0 ≤ x % ((2 ^ j : Nat) : Int) := Int.emod_nonneg _ (by omega)
  have h6 : x % ((2 ^ j : Nat) : Int) < ((2 ^ j : Nat) : Int) := Int.emod_lt_of_pos _ h3
  have h7 : 0 ≤ x % ((2 ^ 32 : Nat) : Int) := Int.emod_nonneg _ (by decide)
  apply Int.ofNat.inj
  show ((((x % ((2 ^ 32 : Nat) : Int)).toNat % 2 ^ j : Nat)) : Int) = ((((x % ((2 ^ j : Nat) : Int)) % ((2 ^ 32 : Nat) : Int)).toNat : Nat) : Int)
  rw [Int.natCast_emod, Int.toNat_of_nonneg h7, Int.toNat_of_nonneg (Int.emod_nonneg _ (by decide))]
  rw [Int.emod_eq_of_lt (a := x % ((2 ^ j : Nat) : Int)) h5 (by omega)]
  apply Int.emod_emod_of_dvd
  exact_mod_cast Nat.pow_dvd_pow 2 (by omega : j ≤ 32)
theorem r_iandM {μ : zMi} {k n pc : Nat} {L : List (Option Value)} {st : List Value} {S : zSh} {h : zMm} {Q : Option Value → zSh → zMm → Prop} {x y z : Int} (hd : decode μ.2.1 pc = .ok (.iand, 1)) (hz : zI x &&& zI y = zI z) (kk : RR μ k n (pc + 1) L (.int (zI z) :: st) S h Q) : RR μ k n pc L (.int (zI y) :: .int (zI x) :: st) S h Q := by
  intro p l e s m args below meth c dC dI ca ρ B A Z H locs ls hC hG hN hH hL
  refine lv_iand hC.1 hC.2.1 hd ?_
  rw [hz]
  exact (kk p l e s m args below meth c dC dI ca ρ B A Z H locs ls hC hG hN hH hL)
theorem zI_div {x y : Int} (hx : 0 ≤ x ∧ x < 2147483648) (hy : 0 < y ∧ y < 2147483648) : zI x / zI y = zI (x / y) := by
  have hdx : x / y ≤ x := Int.ediv_le_self _ hx.1
  have hd0 : 0 ≤ x / y := Int.ediv_nonneg hx.1 (by omega)
  rw [← Int32.toInt_inj, Int32.toInt_div_of_ne_right _ _ (fun z => by
    have z1 := congrArg Int32.toInt z
    rw [zI_to ⟨by omega, by omega⟩] at z1
    have : (-1 : Int32).toInt = -1 := rfl
    omega), zI_to ⟨by omega, by omega⟩, zI_to ⟨by omega, by omega⟩, zI_to ⟨by omega, by omega⟩, Int.tdiv_eq_ediv_of_nonneg hx.1]
theorem zI_ne0 {y : Int} (hy : 0 < y ∧ y < 2147483648) : ¬ zI y = 0 := fun z => by
  have z1 := congrArg Int32.toInt z
  rw [zI_to ⟨by omega, by omega⟩] at z1
  have : (0 : Int32).toInt = 0 := rfl
  omega
theorem r_idiv {μ : zMi} {k n pc : Nat} {L : List (Option Value)} {st : List Value} {S : zSh} {h : zMm} {Q : Option Value → zSh → zMm → Prop} {x y : Int} (hd : decode μ.2.1 pc = .ok (.idiv, 1)) (hx : 0 ≤ x ∧ x < 2147483648) (hy : 0 < y ∧ y < 2147483648) (kk : RR μ k n (pc + 1) L (.int (zI (x / y)) :: st) S h Q) : RR μ k n pc L (.int (zI y) :: .int (zI x) :: st) S h Q := by
  intro p l e s m args below meth c dC dI ca ρ B A Z H locs ls hC hG hN hH hL
  refine lv_idiv hC.1 hC.2.1 hd (zI_ne0 hy) ?_
  rw [zI_div hx hy]
  exact (kk p l e s m args below meth c dC dI ca ρ B A Z H locs ls hC hG hN hH hL)
theorem r_irem {μ : zMi} {k n pc : Nat} {L : List (Option Value)} {st : List Value} {S : zSh} {h : zMm} {Q : Option Value → zSh → zMm → Prop} {x y : Int} (hd : decode μ.2.1 pc = .ok (.irem, 1)) (hx : 0 ≤ x ∧ x < 2147483648) (hy : 0 < y ∧ y < 2147483648) (kk : RR μ k n (pc + 1) L (.int (zI (x % y)) :: st) S h Q) : RR μ k n pc L (.int (zI y) :: .int (zI x) :: st) S h Q := by
  intro p l e s m args below meth c dC dI ca ρ B A Z H locs ls hC hG hN hH hL
  refine lv_irem hC.1 hC.2.1 hd (zI_ne0 hy) ?_
  rw [zI_div hx hy, zI_mul, zI_sub, show x - x / y * y = x % y by rw [Int.emod_def, Int.mul_comm]]
  exact (kk p l e s m args below meth c dC dI ca ρ B A Z H locs ls hC hG hN hH hL)
theorem zJ_div {x y : Int} (hx : 0 ≤ x ∧ x < 9223372036854775808) (hy : 0 < y ∧ y < 9223372036854775808) : zJ x / zJ y = zJ (x / y) := by
  have hdx : x / y ≤ x := Int.ediv_le_self _ hx.1
  have hd0 : 0 ≤ x / y := Int.ediv_nonneg hx.1 (by omega)
  rw [← Int64.toInt_inj, Int64.toInt_div_of_ne_right _ _ (fun z => by
    have z1 := congrArg Int64.toInt z
    rw [zJ_to ⟨by omega, by omega⟩] at z1
    have : (-1 : Int64).toInt = -1 := rfl
    omega), zJ_to ⟨by omega, by omega⟩, zJ_to ⟨by omega, by omega⟩, zJ_to ⟨by omega, by omega⟩, Int.tdiv_eq_ediv_of_nonneg hx.1]
theorem zJ_ne0 {y : Int} (hy : 0 < y ∧ y < 9223372036854775808) : ¬ zJ y = 0 := fun z => by
  have z1 := congrArg Int64.toInt z
  rw [zJ_to ⟨by omega, by omega⟩] at z1
  have : (0 : Int64).toInt = 0 := rfl
  omega
theorem r_ldiv {μ : zMi} {k n pc : Nat} {L : List (Option Value)} {st : List Value} {S : zSh} {h : zMm} {Q : Option Value → zSh → zMm → Prop} {x y : Int} (hd : decode μ.2.1 pc = .ok (.ldiv, 1)) (hx : 0 ≤ x ∧ x < 9223372036854775808) (hy : 0 < y ∧ y < 9223372036854775808) (kk : RR μ k n (pc + 1) L (.long (zJ (x / y)) :: st) S h Q) : RR μ k n pc L (.long (zJ y) :: .long (zJ x) :: st) S h Q := by
  intro p l e s m args below meth c dC dI ca ρ B A Z H locs ls hC hG hN hH hL
  refine lv_ldiv hC.1 hC.2.1 hd (zJ_ne0 hy) ?_
  rw [zJ_div hx hy]
  exact (kk p l e s m args below meth c dC dI ca ρ B A Z H locs ls hC hG hN hH hL)
theorem r_lrem {μ : zMi} {k n pc : Nat} {L : List (Option Value)} {st : List Value} {S : zSh} {h : zMm} {Q : Option Value → zSh → zMm → Prop} {x y : Int} (hd : decode μ.2.1 pc = .ok (.lrem, 1)) (hx : 0 ≤ x ∧ x < 9223372036854775808) (hy : 0 < y ∧ y < 9223372036854775808) (kk : RR μ k n (pc + 1) L (.long (zJ (x % y)) :: st) S h Q) : RR μ k n pc L (.long (zJ y) :: .long (zJ x) :: st) S h Q := by
  intro p l e s m args below meth c dC dI ca ρ B A Z H locs ls hC hG hN hH hL
  refine lv_lrem hC.1 hC.2.1 hd (zJ_ne0 hy) ?_
  rw [zJ_div hx hy, zJ_mul, zJ_sub, show x - x / y * y = x % y by rw [Int.emod_def, Int.mul_comm]]
  exact (kk p l e s m args below meth c dC dI ca ρ B A Z H locs ls hC hG hN hH hL)
theorem zI_64 {x : Int} (h : zR x) : (zI x).toInt64 = zJ x := by
  rw [← Int64.toInt_inj, Int32.toInt_toInt64, zI_to h, zJ_to ⟨by unfold zR at h; omega, by unfold zR at h; omega⟩]
theorem r_i2l {μ : zMi} {k n pc : Nat} {L : List (Option Value)} {st : List Value} {S : zSh} {h : zMm} {Q : Option Value → zSh → zMm → Prop} {x : Int} (hd : decode μ.2.1 pc = .ok (.i2l, 1)) (hx : zR x) (kk : RR μ k n (pc + 1) L (.long (zJ x) :: st) S h Q) : RR μ k n pc L (.int (zI x) :: st) S h Q := by
  intro p l e s m args below meth c dC dI ca ρ B A Z H locs ls hC hG hN hH hL
  exact lv_i2l hC.1 hC.2.1 hd (zI_64 hx) (kk p l e s m args below meth c dC dI ca ρ B A Z H locs ls hC hG hN hH hL)
theorem r_l2i {μ : zMi} {k n pc : Nat} {L : List (Option Value)} {st : List Value} {S : zSh} {h : zMm} {Q : Option Value → zSh → zMm → Prop} {x : Int} (hd : decode μ.2.1 pc = .ok (.l2i, 1)) (kk : RR μ k n (pc + 1) L (.int (zI x) :: st) S h Q) : RR μ k n pc L (.long (zJ x) :: st) S h Q := by
  intro p l e s m args below meth c dC dI ca ρ B A Z H locs ls hC hG hN hH hL
  exact lv_l2i hC.1 hC.2.1 hd (Int64.toInt32_ofInt) (kk p l e s m args below meth c dC dI ca ρ B A Z H locs ls hC hG hN hH hL)
theorem zI_B (x : Int) : (zI x).toInt8.toInt32 = zI (iB x) := by
  rw [← Int32.toInt_inj, Int8.toInt_toInt32, zI_to (x := iB x)]
  · rfl
  · have h1 := (zI x).toInt8.le_toInt
    have h2 := (zI x).toInt8.toInt_lt
    unfold iB zR
    omega
theorem zI_T (x : Int) : (zI x).toInt16.toInt32 = zI (iT x) := by
  rw [← Int32.toInt_inj, Int16.toInt_toInt32, zI_to (x := iT x)]
  · rfl
  · have h1 := (zI x).toInt16.le_toInt
    have h2 := (zI x).toInt16.toInt_lt
    unfold iT zR
    omega
theorem r_i2b {μ : zMi} {k n pc : Nat} {L : List (Option Value)} {st : List Value} {S : zSh} {h : zMm} {Q : Option Value → zSh → zMm → Prop} {x : Int} (hd : decode μ.2.1 pc = .ok (.i2b, 1)) (kk : RR μ k n (pc + 1) L (.int (zI (iB x)) :: st) S h Q) : RR μ k n pc L (.int (zI x) :: st) S h Q := by
  intro p l e s m args below meth c dC dI ca ρ B A Z H locs ls hC hG hN hH hL
  exact lv_i2b hC.1 hC.2.1 hd (zI_B x) (kk p l e s m args below meth c dC dI ca ρ B A Z H locs ls hC hG hN hH hL)
theorem r_i2s {μ : zMi} {k n pc : Nat} {L : List (Option Value)} {st : List Value} {S : zSh} {h : zMm} {Q : Option Value → zSh → zMm → Prop} {x : Int} (hd : decode μ.2.1 pc = .ok (.i2s, 1)) (kk : RR μ k n (pc + 1) L (.int (zI (iT x)) :: st) S h Q) : RR μ k n pc L (.int (zI x) :: st) S h Q := by
  intro p l e s m args below meth c dC dI ca ρ B A Z H locs ls hC hG hN hH hL
  exact lv_i2s hC.1 hC.2.1 hd (zI_T x) (kk p l e s m args below meth c dC dI ca ρ B A Z H locs ls hC hG hN hH hL)
theorem zCmp_is {x y : Int} (hx : zRl x) (hy : zRl y) : lg_cmp (zJ x) (zJ y) = zI (zCmp x y) := by
  unfold lg_cmp zCmp
  have h1 : zJ y < zJ x ↔ y < x := by rw [Int64.lt_iff_toInt_lt, zJ_to hx, zJ_to hy]
  have h2 : zJ x = zJ y ↔ x = y := by rw [← Int64.toInt_inj, zJ_to hx, zJ_to hy]
  by_cases c1 : y < x
  · rw [if_pos (h1.mpr c1), if_neg (by omega), if_neg (by omega)]; rfl
  · rw [if_neg (fun z => c1 (h1.mp z))]
    by_cases c2 : x = y
    · rw [if_pos (h2.mpr c2), if_neg (by omega), if_pos c2]; rfl
    · rw [if_neg (fun z => c2 (h2.mp z)), if_pos (by omega)]; rfl
theorem r_lcmp {μ : zMi} {k n pc : Nat} {L : List (Option Value)} {st : List Value} {S : zSh} {h : zMm} {Q : Option Value → zSh → zMm → Prop} {x y : Int} (hd : decode μ.2.1 pc = .ok (.lcmp, 1)) (hx : zRl x) (hy : zRl y) (kk : RR μ k n (pc + 1) L (.int (zI (zCmp x y)) :: st) S h Q) : RR μ k n pc L (.long (zJ y) :: .long (zJ x) :: st) S h Q := by
  intro p l e s m args below meth c dC dI ca ρ B A Z H locs ls hC hG hN hH hL
  refine W.lcmp hC.1 hC.2.1 hd ?_
  rw [zCmp_is hx hy]
  exact (kk p l e s m args below meth c dC dI ca ρ B A Z H locs ls hC hG hN hH hL)
theorem r_dup {μ : zMi} {k n pc : Nat} {L : List (Option Value)} {st : List Value} {S : zSh} {h : zMm} {Q : Option Value → zSh → zMm → Prop} {v : Value} (hv : v.category = 1) (hd : decode μ.2.1 pc = .ok (.dup, 1)) (kk : RR μ k n (pc + 1) L (v :: v :: st) S h Q) : RR μ k n pc L (v :: st) S h Q := by
  intro p l e s m args below meth c dC dI ca ρ B A Z H locs ls hC hG hN hH hL
  exact lv_dup hC.1 hC.2.1 hd (by rw [zV_cat, hv]) (kk p l e s m args below meth c dC dI ca ρ B A Z H locs ls hC hG hN hH hL)
theorem r_pop {μ : zMi} {k n pc : Nat} {L : List (Option Value)} {st : List Value} {S : zSh} {h : zMm} {Q : Option Value → zSh → zMm → Prop} {v : Value} (hv : v.category = 1) (hd : decode μ.2.1 pc = .ok (.pop, 1)) (kk : RR μ k n (pc + 1) L st S h Q) : RR μ k n pc L (v :: st) S h Q := by
  intro p l e s m args below meth c dC dI ca ρ B A Z H locs ls hC hG hN hH hL
  exact lv_pop hC.1 hC.2.1 hd (by rw [zV_cat, hv]) (kk p l e s m args below meth c dC dI ca ρ B A Z H locs ls hC hG hN hH hL)
theorem r_dup2 {μ : zMi} {k n pc : Nat} {L : List (Option Value)} {st : List Value} {S : zSh} {h : zMm} {Q : Option Value → zSh → zMm → Prop} {v w : Value} (hv : v.category = 1) (hw : w.category = 1) (hd : decode μ.2.1 pc = .ok (.dup2, 1)) (kk : RR μ k n (pc + 1) L (v :: w :: v :: w :: st) S h Q) : RR μ k n pc L (v :: w :: st) S h Q := by
  intro p l e s m args below meth c dC dI ca ρ B A Z H locs ls hC hG hN hH hL
  exact lv_dup2_11 hC.1 hC.2.1 hd (by rw [zV_cat, hv]) (by rw [zV_cat, hw]) (kk p l e s m args below meth c dC dI ca ρ B A Z H locs ls hC hG hN hH hL)
theorem r_goto {μ : zMi} {k n pc : Nat} {L : List (Option Value)} {st : List Value} {S : zSh} {h : zMm} {Q : Option Value → zSh → zMm → Prop} {off : Int} {tgt : Nat} (hd : decode μ.2.1 pc = .ok (.goto off, 3)) (ht : (pc : Int) + off = (tgt : Int)) (kk : RR μ k n tgt L st S h Q) : RR μ k n pc L st S h Q := by
  intro p l e s m args below meth c dC dI ca ρ B A Z H locs ls hC hG hN hH hL
  exact lv_goto hC.1 hC.2.1 hd ht (kk p l e s m args below meth c dC dI ca ρ B A Z H locs ls hC hG hN hH hL)

theorem r_icmp_eq {μ : zMi} {k n pc : Nat} {L : List (Option Value)} {st : List Value} {S : zSh} {h : zMm} {Q : Option Value → zSh → zMm → Prop} {x y off : Int} {tgt : Nat} (hd : decode μ.2.1 pc = .ok (.if_icmp .eq off, 3)) (ht : (pc : Int) + off = (tgt : Int)) (hx : zR x) (hy : zR y) (kt : x = y → RR μ k n tgt L st S h Q) (kf : ¬ x = y → RR μ k n (pc + 3) L st S h Q) : RR μ k n pc L (.int (zI y) :: .int (zI x) :: st) S h Q := by
  intro p l e s m args below meth c dC dI ca ρ B A Z H locs ls hC hG hN hH hL
  exact lv_icmp_eq hC.1 hC.2.1 hd ht (fun c0 => (kt ((zI_eq hx hy).mp c0) p l e s m args below meth c dC dI ca ρ B A Z H locs ls hC hG hN hH hL)) (fun c0 => (kf (fun z => c0 ((zI_eq hx hy).mpr z)) p l e s m args below meth c dC dI ca ρ B A Z H locs ls hC hG hN hH hL))

theorem r_if_eq {μ : zMi} {k n pc : Nat} {L : List (Option Value)} {st : List Value} {S : zSh} {h : zMm} {Q : Option Value → zSh → zMm → Prop} {x off : Int} {tgt : Nat} (hd : decode μ.2.1 pc = .ok (.ifCond .eq off, 3)) (ht : (pc : Int) + off = (tgt : Int)) (hx : zR x) (kt : x = 0 → RR μ k n tgt L st S h Q) (kf : ¬ x = 0 → RR μ k n (pc + 3) L st S h Q) : RR μ k n pc L (.int (zI x) :: st) S h Q := by
  intro p l e s m args below meth c dC dI ca ρ B A Z H locs ls hC hG hN hH hL
  have hy : zR 0 := ⟨by decide, by decide⟩
  exact lv_if_eq hC.1 hC.2.1 hd ht (fun c0 => (kt ((zI_eq hx hy).mp c0) p l e s m args below meth c dC dI ca ρ B A Z H locs ls hC hG hN hH hL)) (fun c0 => (kf (fun z => c0 ((zI_eq hx hy).mpr z)) p l e s m args below meth c dC dI ca ρ B A Z H locs ls hC hG hN hH hL))

theorem r_icmp_ne {μ : zMi} {k n pc : Nat} {L : List (Option Value)} {st : List Value} {S : zSh} {h : zMm} {Q : Option Value → zSh → zMm → Prop} {x y off : Int} {tgt : Nat} (hd : decode μ.2.1 pc = .ok (.if_icmp .ne off, 3)) (ht : (pc : Int) + off = (tgt : Int)) (hx : zR x) (hy : zR y) (kt : ¬ x = y → RR μ k n tgt L st S h Q) (kf : x = y → RR μ k n (pc + 3) L st S h Q) : RR μ k n pc L (.int (zI y) :: .int (zI x) :: st) S h Q := by
  intro p l e s m args below meth c dC dI ca ρ B A Z H locs ls hC hG hN hH hL
  exact lv_icmp_ne hC.1 hC.2.1 hd ht (fun c0 => (kt (fun z => c0 ((zI_eq hx hy).mpr z)) p l e s m args below meth c dC dI ca ρ B A Z H locs ls hC hG hN hH hL)) (fun c0 => (kf ((zI_eq hx hy).mp c0) p l e s m args below meth c dC dI ca ρ B A Z H locs ls hC hG hN hH hL))

theorem r_if_ne {μ : zMi} {k n pc : Nat} {L : List (Option Value)} {st : List Value} {S : zSh} {h : zMm} {Q : Option Value → zSh → zMm → Prop} {x off : Int} {tgt : Nat} (hd : decode μ.2.1 pc = .ok (.ifCond .ne off, 3)) (ht : (pc : Int) + off = (tgt : Int)) (hx : zR x) (kt : ¬ x = 0 → RR μ k n tgt L st S h Q) (kf : x = 0 → RR μ k n (pc + 3) L st S h Q) : RR μ k n pc L (.int (zI x) :: st) S h Q := by
  intro p l e s m args below meth c dC dI ca ρ B A Z H locs ls hC hG hN hH hL
  have hy : zR 0 := ⟨by decide, by decide⟩
  exact lv_if_ne hC.1 hC.2.1 hd ht (fun c0 => (kt (fun z => c0 ((zI_eq hx hy).mpr z)) p l e s m args below meth c dC dI ca ρ B A Z H locs ls hC hG hN hH hL)) (fun c0 => (kf ((zI_eq hx hy).mp c0) p l e s m args below meth c dC dI ca ρ B A Z H locs ls hC hG hN hH hL))

theorem r_icmp_lt {μ : zMi} {k n pc : Nat} {L : List (Option Value)} {st : List Value} {S : zSh} {h : zMm} {Q : Option Value → zSh → zMm → Prop} {x y off : Int} {tgt : Nat} (hd : decode μ.2.1 pc = .ok (.if_icmp .lt off, 3)) (ht : (pc : Int) + off = (tgt : Int)) (hx : zR x) (hy : zR y) (kt : x < y → RR μ k n tgt L st S h Q) (kf : ¬ x < y → RR μ k n (pc + 3) L st S h Q) : RR μ k n pc L (.int (zI y) :: .int (zI x) :: st) S h Q := by
  intro p l e s m args below meth c dC dI ca ρ B A Z H locs ls hC hG hN hH hL
  exact lv_icmp_lt hC.1 hC.2.1 hd ht (fun c0 => (kt ((zI_lt hx hy).mp c0) p l e s m args below meth c dC dI ca ρ B A Z H locs ls hC hG hN hH hL)) (fun c0 => (kf (fun z => c0 ((zI_lt hx hy).mpr z)) p l e s m args below meth c dC dI ca ρ B A Z H locs ls hC hG hN hH hL))

theorem r_if_lt {μ : zMi} {k n pc : Nat} {L : List (Option Value)} {st : List Value} {S : zSh} {h : zMm} {Q : Option Value → zSh → zMm → Prop} {x off : Int} {tgt : Nat} (hd : decode μ.2.1 pc = .ok (.ifCond .lt off, 3)) (ht : (pc : Int) + off = (tgt : Int)) (hx : zR x) (kt : x < 0 → RR μ k n tgt L st S h Q) (kf : ¬ x < 0 → RR μ k n (pc + 3) L st S h Q) : RR μ k n pc L (.int (zI x) :: st) S h Q := by
  intro p l e s m args below meth c dC dI ca ρ B A Z H locs ls hC hG hN hH hL
  have hy : zR 0 := ⟨by decide, by decide⟩
  exact lv_if_lt hC.1 hC.2.1 hd ht (fun c0 => (kt ((zI_lt hx hy).mp c0) p l e s m args below meth c dC dI ca ρ B A Z H locs ls hC hG hN hH hL)) (fun c0 => (kf (fun z => c0 ((zI_lt hx hy).mpr z)) p l e s m args below meth c dC dI ca ρ B A Z H locs ls hC hG hN hH hL))

theorem r_icmp_ge {μ : zMi} {k n pc : Nat} {L : List (Option Value)} {st : List Value} {S : zSh} {h : zMm} {Q : Option Value → zSh → zMm → Prop} {x y off : Int} {tgt : Nat} (hd : decode μ.2.1 pc = .ok (.if_icmp .ge off, 3)) (ht : (pc : Int) + off = (tgt : Int)) (hx : zR x) (hy : zR y) (kt : y ≤ x → RR μ k n tgt L st S h Q) (kf : ¬ y ≤ x → RR μ k n (pc + 3) L st S h Q) : RR μ k n pc L (.int (zI y) :: .int (zI x) :: st) S h Q := by
  intro p l e s m args below meth c dC dI ca ρ B A Z H locs ls hC hG hN hH hL
  exact lv_icmp_ge hC.1 hC.2.1 hd ht (fun c0 => (kt ((zI_le hy hx).mp c0) p l e s m args below meth c dC dI ca ρ B A Z H locs ls hC hG hN hH hL)) (fun c0 => (kf (fun z => c0 ((zI_le hy hx).mpr z)) p l e s m args below meth c dC dI ca ρ B A Z H locs ls hC hG hN hH hL))

theorem r_if_ge {μ : zMi} {k n pc : Nat} {L : List (Option Value)} {st : List Value} {S : zSh} {h : zMm} {Q : Option Value → zSh → zMm → Prop} {x off : Int} {tgt : Nat} (hd : decode μ.2.1 pc = .ok (.ifCond .ge off, 3)) (ht : (pc : Int) + off = (tgt : Int)) (hx : zR x) (kt : 0 ≤ x → RR μ k n tgt L st S h Q) (kf : ¬ 0 ≤ x → RR μ k n (pc + 3) L st S h Q) : RR μ k n pc L (.int (zI x) :: st) S h Q := by
  intro p l e s m args below meth c dC dI ca ρ B A Z H locs ls hC hG hN hH hL
  have hy : zR 0 := ⟨by decide, by decide⟩
  exact lv_if_ge hC.1 hC.2.1 hd ht (fun c0 => (kt ((zI_le hy hx).mp c0) p l e s m args below meth c dC dI ca ρ B A Z H locs ls hC hG hN hH hL)) (fun c0 => (kf (fun z => c0 ((zI_le hy hx).mpr z)) p l e s m args below meth c dC dI ca ρ B A Z H locs ls hC hG hN hH hL))

theorem r_icmp_gt {μ : zMi} {k n pc : Nat} {L : List (Option Value)} {st : List Value} {S : zSh} {h : zMm} {Q : Option Value → zSh → zMm → Prop} {x y off : Int} {tgt : Nat} (hd : decode μ.2.1 pc = .ok (.if_icmp .gt off, 3)) (ht : (pc : Int) + off = (tgt : Int)) (hx : zR x) (hy : zR y) (kt : y < x → RR μ k n tgt L st S h Q) (kf : ¬ y < x → RR μ k n (pc + 3) L st S h Q) : RR μ k n pc L (.int (zI y) :: .int (zI x) :: st) S h Q := by
  intro p l e s m args below meth c dC dI ca ρ B A Z H locs ls hC hG hN hH hL
  exact lv_icmp_gt hC.1 hC.2.1 hd ht (fun c0 => (kt ((zI_lt hy hx).mp c0) p l e s m args below meth c dC dI ca ρ B A Z H locs ls hC hG hN hH hL)) (fun c0 => (kf (fun z => c0 ((zI_lt hy hx).mpr z)) p l e s m args below meth c dC dI ca ρ B A Z H locs ls hC hG hN hH hL))

theorem r_if_gt {μ : zMi} {k n pc : Nat} {L : List (Option Value)} {st : List Value} {S : zSh} {h : zMm} {Q : Option Value → zSh → zMm → Prop} {x off : Int} {tgt : Nat} (hd : decode μ.2.1 pc = .ok (.ifCond .gt off, 3)) (ht : (pc : Int) + off = (tgt : Int)) (hx : zR x) (kt : 0 < x → RR μ k n tgt L st S h Q) (kf : ¬ 0 < x → RR μ k n (pc + 3) L st S h Q) : RR μ k n pc L (.int (zI x) :: st) S h Q := by
  intro p l e s m args below meth c dC dI ca ρ B A Z H locs ls hC hG hN hH hL
  have hy : zR 0 := ⟨by decide, by decide⟩
  exact lv_if_gt hC.1 hC.2.1 hd ht (fun c0 => (kt ((zI_lt hy hx).mp c0) p l e s m args below meth c dC dI ca ρ B A Z H locs ls hC hG hN hH hL)) (fun c0 => (kf (fun z => c0 ((zI_lt hy hx).mpr z)) p l e s m args below meth c dC dI ca ρ B A Z H locs ls hC hG hN hH hL))

theorem r_icmp_le {μ : zMi} {k n pc : Nat} {L : List (Option Value)} {st : List Value} {S : zSh} {h : zMm} {Q : Option Value → zSh → zMm → Prop} {x y off : Int} {tgt : Nat} (hd : decode μ.2.1 pc = .ok (.if_icmp .le off, 3)) (ht : (pc : Int) + off = (tgt : Int)) (hx : zR x) (hy : zR y) (kt : x ≤ y → RR μ k n tgt L st S h Q) (kf : ¬ x ≤ y → RR μ k n (pc + 3) L st S h Q) : RR μ k n pc L (.int (zI y) :: .int (zI x) :: st) S h Q := by
  intro p l e s m args below meth c dC dI ca ρ B A Z H locs ls hC hG hN hH hL
  exact lv_icmp_le hC.1 hC.2.1 hd ht (fun c0 => (kt ((zI_le hx hy).mp c0) p l e s m args below meth c dC dI ca ρ B A Z H locs ls hC hG hN hH hL)) (fun c0 => (kf (fun z => c0 ((zI_le hx hy).mpr z)) p l e s m args below meth c dC dI ca ρ B A Z H locs ls hC hG hN hH hL))

theorem r_if_le {μ : zMi} {k n pc : Nat} {L : List (Option Value)} {st : List Value} {S : zSh} {h : zMm} {Q : Option Value → zSh → zMm → Prop} {x off : Int} {tgt : Nat} (hd : decode μ.2.1 pc = .ok (.ifCond .le off, 3)) (ht : (pc : Int) + off = (tgt : Int)) (hx : zR x) (kt : x ≤ 0 → RR μ k n tgt L st S h Q) (kf : ¬ x ≤ 0 → RR μ k n (pc + 3) L st S h Q) : RR μ k n pc L (.int (zI x) :: st) S h Q := by
  intro p l e s m args below meth c dC dI ca ρ B A Z H locs ls hC hG hN hH hL
  have hy : zR 0 := ⟨by decide, by decide⟩
  exact lv_if_le hC.1 hC.2.1 hd ht (fun c0 => (kt ((zI_le hx hy).mp c0) p l e s m args below meth c dC dI ca ρ B A Z H locs ls hC hG hN hH hL)) (fun c0 => (kf (fun z => c0 ((zI_le hx hy).mpr z)) p l e s m args below meth c dC dI ca ρ B A Z H locs ls hC hG hN hH hL))

theorem r_tswIn {μ : zMi} {k n pc : Nat} {L : List (Option Value)} {st : List Value} {S : zSh} {h : zMm} {Q : Option Value → zSh → zMm → Prop} {dflt lo hi x off : Int} {offs : Array Int} {len tgt : Nat} (hd : decode μ.2.1 pc = .ok (.tableswitch dflt lo hi offs, len)) (hx : zR x) (h1 : lo ≤ x) (h2 : x ≤ hi) (ho : offs[(x - lo).toNat]? = some off) (ht : (pc : Int) + off = (tgt : Int)) (kk : RR μ k n tgt L st S h Q) : RR μ k n pc L (.int (zI x) :: st) S h Q := by
  intro p l e s m args below meth c dC dI ca ρ B A Z H locs ls hC hG hN hH hL
  exact lv_tableIn hC.1 hC.2.1 hd (by rw [zI_to hx]; omega) (by rw [zI_to hx]; omega) (by rw [zI_to hx]; exact ho) ht (kk p l e s m args below meth c dC dI ca ρ B A Z H locs ls hC hG hN hH hL)
theorem r_tswOut {μ : zMi} {k n pc : Nat} {L : List (Option Value)} {st : List Value} {S : zSh} {h : zMm} {Q : Option Value → zSh → zMm → Prop} {dflt lo hi x : Int} {offs : Array Int} {len tgt : Nat} (hd : decode μ.2.1 pc = .ok (.tableswitch dflt lo hi offs, len)) (hx : zR x) (h1 : x < lo ∨ hi < x) (ht : (pc : Int) + dflt = (tgt : Int)) (kk : RR μ k n tgt L st S h Q) : RR μ k n pc L (.int (zI x) :: st) S h Q := by
  intro p l e s m args below meth c dC dI ca ρ B A Z H locs ls hC hG hN hH hL
  exact lv_tableOut hC.1 hC.2.1 hd (by rw [zI_to hx]; exact h1) ht (kk p l e s m args below meth c dC dI ca ρ B A Z H locs ls hC hG hN hH hL)
theorem r_lsw {μ : zMi} {k n pc : Nat} {L : List (Option Value)} {st : List Value} {S : zSh} {h : zMm} {Q : Option Value → zSh → zMm → Prop} {dflt x off : Int} {ps : Array (Int × Int)} {len tgt : Nat} (hd : decode μ.2.1 pc = .ok (.lookupswitch dflt ps, len)) (hx : zR x) (hp : (ps.toList.zip (ps.toList.drop 1)).all (fun (a, next) => a.1 < next.1) = true) (ho : Op.lookupswitch.offset ps.toList dflt x = off) (ht : (pc : Int) + off = (tgt : Int)) (kk : RR μ k n tgt L st S h Q) : RR μ k n pc L (.int (zI x) :: st) S h Q := by
  intro p l e s m args below meth c dC dI ca ρ B A Z H locs ls hC hG hN hH hL
  exact lv_lookup hC.1 hC.2.1 hd hp (by rw [zI_to hx]; exact ho) ht (kk p l e s m args below meth c dC dI ca ρ B A Z H locs ls hC hG hN hH hL)
theorem r_ret {μ : zMi} {k n pc : Nat} {L : List (Option Value)} {st : List Value} {S : zSh} {h : zMm} {Q : Option Value → zSh → zMm → Prop} (hd : decode μ.2.1 pc = .ok (.return_, 1)) (hr : μ.2.2.2.1 = none) (hk : k = μ.2.2.2.2.1.cells) (hn : n ≤ μ.2.2.2.2.1.slots) (hq : Q none S h) : RR μ k n pc L [] S h Q := by
  intro p l e s m args below meth c dC dI ca ρ B A Z H locs ls hC hG hN hH hL
  exact hG H locs ls pc k n none S h hk hn hN hH hq (Or.inl ⟨hr, rfl⟩) hd
theorem r_iret {μ : zMi} {k n pc : Nat} {L : List (Option Value)} {st : List Value} {S : zSh} {h : zMm} {Q : Option Value → zSh → zMm → Prop} {x : Int} {ty : FieldType} (hd : decode μ.2.1 pc = .ok (.ireturn, 1)) (hr : μ.2.2.2.1 = some ty) (hx : narrow ty (.int (zI x)) = .int (zI x)) (hk : k = μ.2.2.2.2.1.cells) (hn : n ≤ μ.2.2.2.2.1.slots) (hq : Q (some (.int (zI x))) S h) : RR μ k n pc L [.int (zI x)] S h Q := by
  intro p l e s m args below meth c dC dI ca ρ B A Z H locs ls hC hG hN hH hL
  exact hG H locs ls pc k n (some (.int (zI x))) S h hk hn hN hH hq (Or.inr (Or.inl ⟨ty, zI x, hr, rfl, hx⟩)) hd
theorem r_lret {μ : zMi} {k n pc : Nat} {L : List (Option Value)} {st : List Value} {S : zSh} {h : zMm} {Q : Option Value → zSh → zMm → Prop} {x : Int} (hd : decode μ.2.1 pc = .ok (.lreturn, 1)) (hr : μ.2.2.2.1 = some .long) (hk : k = μ.2.2.2.2.1.cells) (hn : n ≤ μ.2.2.2.2.1.slots) (hq : Q (some (.long (zJ x))) S h) : RR μ k n pc L [.long (zJ x)] S h Q := by
  intro p l e s m args below meth c dC dI ca ρ B A Z H locs ls hC hG hN hH hL
  exact hG H locs ls pc k n (some (.long (zJ x))) S h hk hn hN hH hq (Or.inr (Or.inr (Or.inl ⟨hr, zJ x, rfl⟩))) hd
theorem r_aret {μ : zMi} {k n pc : Nat} {L : List (Option Value)} {st : List Value} {S : zSh} {h : zMm} {Q : Option Value → zSh → zMm → Prop} {a : Nat} {C : String} (hd : decode μ.2.1 pc = .ok (.areturn, 1)) (hr : μ.2.2.2.1 = some (.object C)) (hk : k = μ.2.2.2.2.1.cells) (hn : n ≤ μ.2.2.2.2.1.slots) (hq : Q (some (.ref a)) S h) : RR μ k n pc L [.ref a] S h Q := by
  intro p l e s m args below meth c dC dI ca ρ B A Z H locs ls hC hG hN hH hL
  exact hG H locs ls pc k n (some (.ref a)) S h hk hn hN hH hq (Or.inr (Or.inr (Or.inr ⟨.object C, hr, Or.inl ⟨C, rfl⟩, a, rfl⟩))) hd
