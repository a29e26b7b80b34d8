/-! BYTES OF A LONG -/
theorem iB_mod (x : Int) : iB x % 256 = x % 256 ∧ -128 ≤ iB x ∧ iB x < 128 := by
  have e : iB x = x.bmod 256 := by
    unfold iB
    rw [Int32.toInt_toInt8, Int32.toInt_ofInt, Int.bmod_bmod_of_dvd (by decide)]
  rw [e]
  refine ⟨Int.bmod_emod, ?_, ?_⟩
  · have := Int.le_bmod (x := x) (m := 256) (by decide); omega
  · have := Int.bmod_lt (x := x) (m := 256) (by decide); omega
theorem lSr_is {v : Int} (hv : zRl v) (s : Nat) (hs : s < 64) : lSr v (s : Int) = v / (2 ^ s : Nat) := by
  unfold lSr
  have e : ((zI (s : Int)).toInt64 &&& 63 : Int64) = Int64.ofNat s := by
    have : ∀ s : Fin 64, ((zI ((s : Nat) : Int)).toInt64 &&& 63 : Int64) = Int64.ofNat s := by decide
    exact this ⟨s, hs⟩
  have e2 : ((Int64.ofNat s).toBitVec.smod 64) = BitVec.ofNat 64 s := by
    have : ∀ s : Fin 64, ((Int64.ofNat s).toBitVec.smod 64) = BitVec.ofNat 64 s := by decide
    exact this ⟨s, hs⟩
  rw [e]
  show (BitVec.sshiftRight' (zJ v).toBitVec ((Int64.ofNat s).toBitVec.smod 64)).toInt = _
  rw [e2, BitVec.sshiftRight_eq', BitVec.toInt_sshiftRight, BitVec.toNat_ofNat, Nat.mod_eq_of_lt (by omega : s < 2 ^ 64), Int.shiftRight_eq_div_pow]
  show (zJ v).toInt / _ = _
  rw [zJ_to hv]
theorem lUr_is (v : Int) (s : Nat) (hs : s < 64) : lUr v (s : Int) = ((v % 18446744073709551616) / (2 ^ s : Nat)).bmod 18446744073709551616 := by
  unfold lUr
  have e : ((zI (s : Int)).toInt64.toUInt64 &&& Int64.toUInt64 63 : UInt64) = UInt64.ofNat s := by
    have : ∀ s : Fin 64, ((zI ((s : Nat) : Int)).toInt64.toUInt64 &&& Int64.toUInt64 63 : UInt64) = UInt64.ofNat s := by decide
    exact this ⟨s, hs⟩
  rw [e]
  show (BitVec.toInt (((zJ v).toUInt64 >>> UInt64.ofNat s).toBitVec)) = _
  rw [BitVec.toInt_eq_toNat_bmod, UInt64.toNat_toBitVec, UInt64.toNat_shiftRight, UInt64.toNat_ofNat', Nat.mod_eq_of_lt (by omega : s < 2 ^ 64), Nat.mod_eq_of_lt hs, Nat.shiftRight_eq_div_pow]
  have e3 : ((zJ v).toUInt64.toNat : Int) = v % 18446744073709551616 := by
    show ((BitVec.ofInt 64 v).toNat : Int) = _
    rw [BitVec.toNat_ofInt]
    have := Int.emod_nonneg v (b := 18446744073709551616) (by decide)
    omega
  rw [Int.natCast_ediv, e3]
theorem zBt_1 {v : Int} (hv : zRl v) (s : Nat) (hs : s < 64) (P : Int) (hP : ((2 ^ s : Nat) : Int) = P) (hq : ((v % 18446744073709551616) / P).bmod 18446744073709551616 % 256 = (v / P) % 256) : iB (iB (lUr v (s : Int))) % 256 = (lSr v (s : Int)) % 256 := by
  rw [(iB_mod _).1, (iB_mod _).1, lUr_is v s hs, lSr_is hv s hs, hP]
  exact hq
theorem zBm (x : Int) : x.bmod 18446744073709551616 % 256 = x % 256 := by
  rw [Int.bmod_def]
  split <;> omega
theorem zBt {v k : Int} (hv : zRl v) (hk : 0 ≤ k ∧ k ≤ 7) : iB (iB (lUr v (8 * (7 - k)))) % 256 = (lSr v (8 * (7 - k))) % 256 := by
  rcases (show k = 0 ∨ k = 1 ∨ k = 2 ∨ k = 3 ∨ k = 4 ∨ k = 5 ∨ k = 6 ∨ k = 7 by omega) with e | e | e | e | e | e | e | e
  · rw [e]; exact zBt_1 hv 56 (by decide) 72057594037927936 (by decide) (by rw [zBm]; omega)
  · rw [e]; exact zBt_1 hv 48 (by decide) 281474976710656 (by decide) (by rw [zBm]; omega)
  · rw [e]; exact zBt_1 hv 40 (by decide) 1099511627776 (by decide) (by rw [zBm]; omega)
  · rw [e]; exact zBt_1 hv 32 (by decide) 4294967296 (by decide) (by rw [zBm]; omega)
  · rw [e]; exact zBt_1 hv 24 (by decide) 16777216 (by decide) (by rw [zBm]; omega)
  · rw [e]; exact zBt_1 hv 16 (by decide) 65536 (by decide) (by rw [zBm]; omega)
  · rw [e]; exact zBt_1 hv 8 (by decide) 256 (by decide) (by rw [zBm]; omega)
  · rw [e]; exact zBt_1 hv 0 (by decide) 1 (by decide) (by rw [zBm]; omega)
/-- the tape with n bytes of a long more -/
def zTp (a : zMm) (v n : Int) : zMm := fun o i => if o = 8 ∧ a 7 1 ≤ i ∧ i < a 7 1 + n then (lSr v (8 * (7 - (i - a 7 1)))) % 256 else a o i
def aFeed (a : zMm) (v : Int) : zMm := if a 7 1 + 8 ≤ 320 then zU (zTp a v 8) 7 1 (a 7 1 + 8) else a
def fFeed (a : zMm) : Int := if a 7 1 + 8 ≤ 320 then a 7 1 + 8 else -3
theorem feedc_in {h : zMm} {L v1 : Int} {K : Bool → zMm → Prop} (hv : zRl v1) (hL : 0 ≤ L ∧ L + 8 ≤ 320) : ∀ (n : Nat) (v3 : Int) (h' : zMm), 0 ≤ v3 → v3 + n = 8 → h' 1 1 = L → (∀ o : Nat, o ≠ 2 → h' o = h o) → (∀ i : Int, ¬ (L ≤ i ∧ i < L + v3) → h' 2 i = h 2 i) → (∀ i : Int, L ≤ i → i < L + v3 → h' 2 i % 256 = (lSr v1 (8 * (7 - (i - L)))) % 256 ∧ -128 ≤ h' 2 i ∧ h' 2 i < 128) → (∀ h2, (∀ o : Nat, o ≠ 2 → h2 o = h o) → (∀ i : Int, ¬ (L ≤ i ∧ i < L + 8) → h2 2 i = h 2 i) → (∀ i : Int, L ≤ i → i < L + 8 → h2 2 i % 256 = (lSr v1 (8 * (7 - (i - L)))) % 256 ∧ -128 ≤ h2 2 i ∧ h2 2 i < 128) → K true (zU h2 1 1 (L + 8))) → RR mX8_append 0 0 17 [some (.ref 1), some (.long (zJ v1)), none, some (.int (zI v3))] [] zS0 h' (zQb zS0 K) := by
  intro n
  induction n with
  | zero =>
    intro v3 h' c0 c1 eL eo e1 e2 hK
    have e8 : v3 = 8 := by omega
    refine bX8_append_17 ⟨⟨by omega, by omega⟩, fun _ => ?_, fun c => absurd (by omega) c⟩
    rw [eL]
    rw [e8] at e1 e2
    exact hK h' eo e1 e2
  | succ n ih =>
    intro v3 h' c0 c1 eL eo e1 e2 hK
    refine bX8_append_17 ⟨⟨by omega, by omega⟩, fun c => absurd c (by omega), fun _ => ⟨⟨by omega, by omega⟩, ?_⟩⟩
    rw [eL]
    have hb := zBt (k := v3) hv ⟨c0, by omega⟩
    have hr := iB_mod (iB (lUr v1 (8 * (7 - v3))))
    refine ih (v3 + 1) _ (by omega) (by omega) (by simpa [zU] using eL) (fun o ho => by rw [zU_off o ho]; exact eo o ho) (fun i ci => ?_) (fun i ci cj => ?_) hK
    · rw [zU_ne (by omega)]
      exact e1 i (by omega)
    · by_cases ce : i = L + v3
      · rw [ce, zU_eq, show L + v3 - L = v3 by omega]
        exact ⟨hb, hr.2⟩
      · rw [zU_ne (by omega)]
        exact e2 i ci (by omega)
theorem cFeed {a h : zMm} {v1 : Int} {K : Int → zMm → Prop} (W : WF a) (C : CR a h) (hv : zRl v1) (hK : ∀ h', CR (aFeed a v1) h' → zHi81 h h' → K (fFeed a) h') : zCi mX11_feed [.ref 0, .long (zJ v1)] zS0 h K := by
  refine wX11_feed (wX8_append ?_)
  have C0 := C
  obtain ⟨h1, h2, h3, h4, h5, h6, h7⟩ := C
  obtain ⟨hL1, hL2⟩ := W.2.2.2.2.1
  have e1 : h 1 1 = a 7 1 := h3.1
  rw [e1]
  unfold aFeed fFeed at hK
  refine ⟨⟨by omega, by omega⟩, fun c => ?_, fun c => ?_⟩
  · rw [if_pos c, if_pos c] at hK
    refine feedc_in (h := h) (L := a 7 1) hv ⟨hL1.1, c⟩ 8 0 h (by omega) (by omega) e1 (fun _ _ => rfl) (fun _ _ => rfl) (fun i ci cj => absurd cj (by omega)) ?_
    intro h' eo ea eb
    have ez : ∀ o : Nat, o ≠ 2 → o ≠ 1 → (zU h' 1 1 (a 7 1 + 8)) o = h o := fun o c2 c1 => (zU_off o c1).trans (eo o c2)
    have az : ∀ o : Nat, o ≠ 7 → o ≠ 8 → (zU (zTp a v1 8) 7 1 (a 7 1 + 8)) o = a o := by
      intro o c1 c2
      rw [zU_off o c1]
      funext i
      unfold zTp
      rw [if_neg (fun z => c2 z.1)]
    have a7 : ∀ i : Int, i ≠ 1 → (zU (zTp a v1 8) 7 1 (a 7 1 + 8)) 7 i = a 7 i := by
      intro i ci
      rw [zU_ne (by omega)]
      unfold zTp
      rw [if_neg (by omega)]
    have e11 : (zU h' 1 1 (a 7 1 + 8)) 1 1 = a 7 1 + 8 := zU_eq _ _ _ _
    rw [e11]
    refine hK _ ⟨h1.to ⟨az _ (by decide) (by decide), az _ (by decide) (by decide), az _ (by decide) (by decide), az _ (by decide) (by decide), az _ (by decide) (by decide)⟩ ⟨ez _ (by decide) (by decide), ez _ (by decide) (by decide), ez _ (by decide) (by decide), ez _ (by decide) (by decide), ez _ (by decide) (by decide)⟩, h2.to ⟨a7 0 (by decide), az _ (by decide) (by decide), az _ (by decide) (by decide)⟩ ⟨congrFun (ez _ (by decide) (by decide)) 2, ez _ (by decide) (by decide), ez _ (by decide) (by decide)⟩, ⟨?_, ?_⟩, h4.to ⟨a7 4 (by decide), a7 5 (by decide), fun o _ _ => az o (by omega) (by omega)⟩ (fun o _ _ => ez o (by omega) (by omega)), h5.to (fun o _ _ => az o (by omega) (by omega)) (fun o _ _ => ez o (by omega) (by omega)), h6.to ⟨a7 2 (by decide), a7 3 (by decide)⟩ ⟨congrFun (ez _ (by decide) (by decide)) 1, congrFun (ez _ (by decide) (by decide)) 15⟩, h7.to ⟨az _ (by decide) (by decide), az _ (by decide) (by decide)⟩ ⟨ez _ (by decide) (by decide), ez _ (by decide) (by decide), ez _ (by decide) (by decide)⟩⟩ (fun o ho => ez o (by omega) (by omega))
    · rw [zU_eq, zU_eq]
    · rw [zU_eq]
      intro i ci cj
      rw [zU_off 2 (by decide), zU_off 8 (by decide)]
      unfold zTp
      by_cases cc : a 7 1 ≤ i
      · rw [if_pos (by omega)]
        exact eb i cc cj
      · rw [if_neg (by omega), ea i (by omega)]
        exact h3.2 i ci (by omega)
  · rw [if_neg c, if_neg c] at hK
    exact hK h C0 (fun _ _ => rfl)
theorem feedm_in {a h : zMm} {v1 : Int} {K : Int → zMm → Prop} (hL : 0 ≤ a 7 1 ∧ a 7 1 + 8 ≤ 320) (hK : ∀ h', h' 81 1 = a 7 1 + 8 → (∀ i : Int, i ≠ 1 → h' 81 i = h 81 i) → (∀ o : Nat, o ≠ 81 → o ≠ 82 → h' o = h o) → (∀ i : Int, h' 82 i = if a 7 1 ≤ i ∧ i < a 7 1 + 8 then (lSr v1 (8 * (7 - (i - a 7 1)))) % 256 else h 82 i) → K (a 7 1 + 8) h') : ∀ (n : Nat) (k : Int) (h' : zMm), 0 ≤ k → k + n = 8 → h' 81 1 = a 7 1 + k → (∀ i : Int, i ≠ 1 → h' 81 i = h 81 i) → (∀ o : Nat, o ≠ 81 → o ≠ 82 → h' o = h o) → (∀ i : Int, h' 82 i = if a 7 1 ≤ i ∧ i < a 7 1 + k then (lSr v1 (8 * (7 - (i - a 7 1)))) % 256 else h 82 i) → RR mX12_feed 0 0 19 [some (.ref 81), some (.long (zJ v1)), none, some (.int (zI (8 * (7 - k))))] [] zS0 h' (zQi zS0 K) := by
  intro n
  induction n with
  | zero =>
    intro k h' c0 c1 e1 e2 e3 e4
    have ek : k = 8 := by omega
    refine bX12_feed_19 ⟨⟨by omega, by omega⟩, fun _ => ?_, fun c => absurd (by omega) c⟩
    rw [e1]
    rw [ek] at e1 e4 ⊢
    exact hK h' e1 e2 e3 e4
  | succ n ih =>
    intro k h' c0 c1 e1 e2 e3 e4
    refine bX12_feed_19 ⟨⟨by omega, by omega⟩, fun c => absurd c (by omega), fun _ => ⟨⟨by omega, by omega⟩, ?_⟩⟩
    rw [e1, show 8 * (7 - k) + -8 = 8 * (7 - (k + 1)) by omega]
    refine ih (k + 1) _ (by omega) (by omega) (by rw [zU_eq]; omega) (fun i ci => ?_) (fun o c1 c2 => ?_) (fun i => ?_)
    · rw [zU_ne (by omega), zU_ne (by omega)]
      exact e2 i ci
    · rw [zU_off o c1, zU_off o c2]
      exact e3 o c1 c2
    · rw [zU_off 82 (by decide), zU_at]
      by_cases ce : i = a 7 1 + k
      · rw [if_pos ⟨rfl, ce⟩, if_pos (by omega), show i - a 7 1 = k by omega]
      · rw [if_neg (by omega), e4 i]
        by_cases cf : a 7 1 ≤ i ∧ i < a 7 1 + k
        · rw [if_pos cf, if_pos (by omega)]
        · rw [if_neg cf, if_neg (by omega)]
theorem mFeed {a h : zMm} {v1 : Int} {K : Int → zMm → Prop} (W : WF a) (M : MR a h) (hK : ∀ h', MR (aFeed a v1) h' → zLo81 h h' → K (fFeed a) h') : zCi mX12_feed [.ref 81, .long (zJ v1)] zS0 h K := by
  refine wX12_feed ?_
  have M0 := M
  obtain ⟨m1, m2, m3, m4, m5, m6⟩ := M
  obtain ⟨hL1, hL2⟩ := W.2.2.2.2.1
  have e1 : h 81 1 = a 7 1 := m2.1
  rw [e1]
  unfold aFeed fFeed at hK
  refine ⟨⟨by omega, by omega⟩, fun c => ?_, fun c => ?_⟩
  · rw [if_pos c, if_pos c] at hK
    refine feedm_in (a := a) (h := h) ⟨hL1.1, c⟩ ?_ 8 0 h (by omega) (by omega) (by rw [e1]; omega) (fun _ _ => rfl) (fun _ _ _ => rfl) (fun i => by rw [if_neg (by omega)])
    intro h' z1 z2 z3 z4
    have az : ∀ o : Nat, o ≠ 7 → o ≠ 8 → (zU (zTp a v1 8) 7 1 (a 7 1 + 8)) o = a o := by
      intro o c1 c2
      rw [zU_off o c1]
      funext i
      unfold zTp
      rw [if_neg (fun z => c2 z.1)]
    have a7 : ∀ i : Int, i ≠ 1 → (zU (zTp a v1 8) 7 1 (a 7 1 + 8)) 7 i = a 7 i := by
      intro i ci
      rw [zU_ne (by omega)]
      unfold zTp
      rw [if_neg (by omega)]
    refine hK h' ⟨m1.to ⟨az _ (by decide) (by decide), az _ (by decide) (by decide), az _ (by decide) (by decide), az _ (by decide) (by decide), az _ (by decide) (by decide), az _ (by decide) (by decide), az _ (by decide) (by decide), a7 0 (by decide)⟩ (a7 4 (by decide)) (a7 5 (by decide)) (z3 _ (by decide) (by decide)) (z3 _ (by decide) (by decide)) (z2 _ (by decide)), ⟨?_, ?_⟩, m3.to (a7 4 (by decide)) (a7 5 (by decide)) (fun o _ _ => az o (by omega) (by omega)) (fun i _ => congrFun (z3 _ (by decide) (by decide)) i) (z3 _ (by decide) (by decide)), m4.to (fun o _ _ => az o (by omega) (by omega)) (z3 _ (by decide) (by decide)) (z3 _ (by decide) (by decide)) (z3 _ (by decide) (by decide)), m5.to (a7 2 (by decide)) (a7 3 (by decide)) (z2 _ (by decide)) (z2 _ (by decide)), m6.to (fun o _ _ => z3 o (by omega) (by omega))⟩ (fun o ho => z3 o (by omega) (by omega))
    · rw [zU_eq, z1]
    · rw [zU_eq]
      intro i ci cj
      rw [z4, zU_off 8 (by decide)]
      unfold zTp
      by_cases cc : a 7 1 ≤ i
      · rw [if_pos ⟨cc, cj⟩, if_pos ⟨rfl, cc, cj⟩]
      · rw [if_neg (by omega), if_neg (by omega)]
        exact m2.2 i ci (by omega)
  · rw [if_neg c, if_neg c] at hK
    exact hK h M0 (fun _ _ => rfl)
/-! WHAT ONE CALL CHANGES AT MOST -/
theorem CR.tape {a h a' h' : zMm} (C : CR a h) (ha : ∀ o : Nat, o ≠ 7 → o ≠ 8 → a' o = a o) (ha7 : ∀ i : Int, i ≠ 1 → a' 7 i = a 7 i) (hh : ∀ o : Nat, o ≠ 1 → o ≠ 2 → h' o = h o) (hT : cT a' h') : CR a' h' := by
  obtain ⟨h1, h2, h3, h4, h5, h6, h7⟩ := C
  exact ⟨h1.to ⟨ha _ (by decide) (by decide), ha _ (by decide) (by decide), ha _ (by decide) (by decide), ha _ (by decide) (by decide), ha _ (by decide) (by decide)⟩ ⟨hh _ (by decide) (by decide), hh _ (by decide) (by decide), hh _ (by decide) (by decide), hh _ (by decide) (by decide), hh _ (by decide) (by decide)⟩, h2.to ⟨ha7 0 (by decide), ha _ (by decide) (by decide), ha _ (by decide) (by decide)⟩ ⟨congrFun (hh _ (by decide) (by decide)) 2, hh _ (by decide) (by decide), hh _ (by decide) (by decide)⟩, hT, h4.to ⟨ha7 4 (by decide), ha7 5 (by decide), fun o _ _ => ha o (by omega) (by omega)⟩ (fun o _ _ => hh o (by omega) (by omega)), h5.to (fun o _ _ => ha o (by omega) (by omega)) (fun o _ _ => hh o (by omega) (by omega)), h6.to ⟨ha7 2 (by decide), ha7 3 (by decide)⟩ ⟨congrFun (hh _ (by decide) (by decide)) 1, congrFun (hh _ (by decide) (by decide)) 15⟩, h7.to ⟨ha _ (by decide) (by decide), ha _ (by decide) (by decide)⟩ ⟨hh _ (by decide) (by decide), hh _ (by decide) (by decide), hh _ (by decide) (by decide)⟩⟩
theorem CR.moves {a h a' h' : zMm} (C : CR a h) (ha : ∀ o : Nat, o ≠ 5 → o ≠ 6 → o ≠ 7 → a' o = a o) (ha7 : ∀ i : Int, i ≠ 0 → a' 7 i = a 7 i) (hh : ∀ o : Nat, o ≠ 16 → o ≠ 17 → o ≠ 18 → h' o = h o) (hT : zMA a' h') : CR a' h' := by
  obtain ⟨h1, h2, h3, h4, h5, h6, h7⟩ := C
  exact ⟨h1.to ⟨ha _ (by decide) (by decide) (by decide), ha _ (by decide) (by decide) (by decide), ha _ (by decide) (by decide) (by decide), ha _ (by decide) (by decide) (by decide), ha _ (by decide) (by decide) (by decide)⟩ ⟨hh _ (by decide) (by decide) (by decide), hh _ (by decide) (by decide) (by decide), hh _ (by decide) (by decide) (by decide), hh _ (by decide) (by decide) (by decide), hh _ (by decide) (by decide) (by decide)⟩, hT, h3.to ⟨ha7 1 (by decide), ha _ (by decide) (by decide) (by decide)⟩ ⟨congrFun (hh _ (by decide) (by decide) (by decide)) 1, hh _ (by decide) (by decide) (by decide)⟩, h4.to ⟨ha7 4 (by decide), ha7 5 (by decide), fun o _ _ => ha o (by omega) (by omega) (by omega)⟩ (fun o _ _ => hh o (by omega) (by omega) (by omega)), h5.to (fun o _ _ => ha o (by omega) (by omega) (by omega)) (fun o _ _ => hh o (by omega) (by omega) (by omega)), h6.to ⟨ha7 2 (by decide), ha7 3 (by decide)⟩ ⟨congrFun (hh _ (by decide) (by decide) (by decide)) 1, congrFun (hh _ (by decide) (by decide) (by decide)) 15⟩, h7.to ⟨ha _ (by decide) (by decide) (by decide), ha _ (by decide) (by decide) (by decide)⟩ ⟨hh _ (by decide) (by decide) (by decide), hh _ (by decide) (by decide) (by decide), hh _ (by decide) (by decide) (by decide)⟩⟩
theorem CR.cells {a h a' h' : zMm} (C : CR a h) (ha : ∀ o : Nat, 4 < o → a' o = a o) (hh : ∀ o : Nat, ¬ (11 ≤ o ∧ o ≤ 15) → o ≠ 31 → h' o = h o) (hG : cG a' h') (hL : cL a' h') : CR a' h' := by
  obtain ⟨h1, h2, h3, h4, h5, h6, h7⟩ := C
  exact ⟨hG, h2.to ⟨congrFun (ha 7 (by decide)) 0, ha _ (by decide), ha _ (by decide)⟩ ⟨congrFun (hh _ (by decide) (by decide)) 2, hh _ (by decide) (by decide), hh _ (by decide) (by decide)⟩, h3.to ⟨congrFun (ha 7 (by decide)) 1, ha _ (by decide)⟩ ⟨congrFun (hh _ (by decide) (by decide)) 1, hh _ (by decide) (by decide)⟩, h4.to ⟨congrFun (ha 7 (by decide)) 4, congrFun (ha 7 (by decide)) 5, fun o _ _ => ha o (by omega)⟩ (fun o _ _ => hh o (by omega) (by omega)), h5.to (fun o _ _ => ha o (by omega)) (fun o _ _ => hh o (by omega) (by omega)), h6.to ⟨congrFun (ha 7 (by decide)) 2, congrFun (ha 7 (by decide)) 3⟩ ⟨congrFun (hh _ (by decide) (by decide)) 1, congrFun (hh _ (by decide) (by decide)) 15⟩, hL⟩
theorem CR.image {a h a' h' : zMm} (C : CR a h) (ha : ∀ o : Nat, o ≠ 7 → ¬ (10 ≤ o ∧ o ≤ 25) → a' o = a o) (ha7 : ∀ i : Int, i ≠ 4 → i ≠ 5 → a' 7 i = a 7 i) (hh : ∀ o : Nat, ¬ (51 ≤ o ∧ o ≤ 71) → h' o = h o) (hI : cI a' h') : CR a' h' := by
  obtain ⟨h1, h2, h3, h4, h5, h6, h7⟩ := C
  exact ⟨h1.to ⟨ha _ (by decide) (by decide), ha _ (by decide) (by decide), ha _ (by decide) (by decide), ha _ (by decide) (by decide), ha _ (by decide) (by decide)⟩ ⟨hh _ (by decide), hh _ (by decide), hh _ (by decide), hh _ (by decide), hh _ (by decide)⟩, h2.to ⟨ha7 0 (by decide) (by decide), ha _ (by decide) (by decide), ha _ (by decide) (by decide)⟩ ⟨congrFun (hh _ (by decide)) 2, hh _ (by decide), hh _ (by decide)⟩, h3.to ⟨ha7 1 (by decide) (by decide), ha _ (by decide) (by decide)⟩ ⟨congrFun (hh _ (by decide)) 1, hh _ (by decide)⟩, hI, h5.to (fun o _ _ => ha o (by omega) (by omega)) (fun o _ _ => hh o (by omega)), h6.to ⟨ha7 2 (by decide) (by decide), ha7 3 (by decide) (by decide)⟩ ⟨congrFun (hh _ (by decide)) 1, congrFun (hh _ (by decide)) 15⟩, h7.to ⟨ha _ (by decide) (by decide), ha _ (by decide) (by decide)⟩ ⟨hh _ (by decide), hh _ (by decide), hh _ (by decide)⟩⟩
theorem CR.sheet {a h a' h' : zMm} (C : CR a h) (ha : ∀ o : Nat, ¬ (30 ≤ o ∧ o ≤ 35) → a' o = a o) (hh : ∀ o : Nat, ¬ (73 ≤ o ∧ o ≤ 80) → h' o = h o) (hS : cS a' h') : CR a' h' := by
  obtain ⟨h1, h2, h3, h4, h5, h6, h7⟩ := C
  exact ⟨h1.to ⟨ha _ (by decide), ha _ (by decide), ha _ (by decide), ha _ (by decide), ha _ (by decide)⟩ ⟨hh _ (by decide), hh _ (by decide), hh _ (by decide), hh _ (by decide), hh _ (by decide)⟩, h2.to ⟨congrFun (ha 7 (by decide)) 0, ha _ (by decide), ha _ (by decide)⟩ ⟨congrFun (hh _ (by decide)) 2, hh _ (by decide), hh _ (by decide)⟩, h3.to ⟨congrFun (ha 7 (by decide)) 1, ha _ (by decide)⟩ ⟨congrFun (hh _ (by decide)) 1, hh _ (by decide)⟩, h4.to ⟨congrFun (ha 7 (by decide)) 4, congrFun (ha 7 (by decide)) 5, fun o _ _ => ha o (by omega)⟩ (fun o _ _ => hh o (by omega)), hS, h6.to ⟨congrFun (ha 7 (by decide)) 2, congrFun (ha 7 (by decide)) 3⟩ ⟨congrFun (hh _ (by decide)) 1, congrFun (hh _ (by decide)) 15⟩, h7.to ⟨ha _ (by decide), ha _ (by decide)⟩ ⟨hh _ (by decide), hh _ (by decide), hh _ (by decide)⟩⟩
/-- the same on the model's side -/
theorem MR.tape {a h a' h' : zMm} (M : MR a h) (ha : ∀ o : Nat, o ≠ 7 → o ≠ 8 → a' o = a o) (ha7 : ∀ i : Int, i ≠ 1 → a' 7 i = a 7 i) (hh : ∀ o : Nat, o ≠ 81 → o ≠ 82 → h' o = h o) (h81 : ∀ i : Int, i ≠ 1 → h' 81 i = h 81 i) (hT : mT a' h') : MR a' h' := by
  obtain ⟨m1, m2, m3, m4, m5, m6⟩ := M
  exact ⟨m1.to ⟨ha _ (by decide) (by decide), ha _ (by decide) (by decide), ha _ (by decide) (by decide), ha _ (by decide) (by decide), ha _ (by decide) (by decide), ha _ (by decide) (by decide), ha _ (by decide) (by decide), ha7 0 (by decide)⟩ (ha7 4 (by decide)) (ha7 5 (by decide)) (hh _ (by decide) (by decide)) (hh _ (by decide) (by decide)) (h81 _ (by decide)), hT, m3.to (ha7 4 (by decide)) (ha7 5 (by decide)) (fun o _ _ => ha o (by omega) (by omega)) (fun i _ => congrFun (hh _ (by decide) (by decide)) i) (hh _ (by decide) (by decide)), m4.to (fun o _ _ => ha o (by omega) (by omega)) (hh _ (by decide) (by decide)) (hh _ (by decide) (by decide)) (hh _ (by decide) (by decide)), m5.to (ha7 2 (by decide)) (ha7 3 (by decide)) (h81 _ (by decide)) (h81 _ (by decide)), m6.to (fun o _ _ => hh o (by omega) (by omega))⟩
/-- what stands in the 600 below 200 may change with mG -/
theorem MR.state {a h a' h' : zMm} (M : MR a h) (ha : ∀ o : Nat, 7 < o → a' o = a o) (ha7 : ∀ i : Int, i ≠ 0 → a' 7 i = a 7 i) (hh : ∀ o : Nat, o ≠ 92 → o ≠ 88 → h' o = h o) (h92 : ∀ i : Int, 200 ≤ i → h' 92 i = h 92 i) (hG : mG a' h') : MR a' h' := by
  obtain ⟨m1, m2, m3, m4, m5, m6⟩ := M
  exact ⟨hG, m2.to (ha7 1 (by decide)) (ha _ (by decide)) (congrFun (hh _ (by decide) (by decide)) 1) (hh _ (by decide) (by decide)), m3.to (ha7 4 (by decide)) (ha7 5 (by decide)) (fun o _ _ => ha o (by omega)) h92 (hh _ (by decide) (by decide)), m4.to (fun o _ _ => ha o (by omega)) (hh _ (by decide) (by decide)) (hh _ (by decide) (by decide)) (hh _ (by decide) (by decide)), m5.to (ha7 2 (by decide)) (ha7 3 (by decide)) (congrFun (hh _ (by decide) (by decide)) 2) (congrFun (hh _ (by decide) (by decide)) 50), m6.to (fun o _ _ => hh o (by omega) (by omega))⟩
theorem MR.sheet {a h a' h' : zMm} (M : MR a h) (ha : ∀ o : Nat, ¬ (30 ≤ o ∧ o ≤ 35) → a' o = a o) (hh : ∀ o : Nat, ¬ (105 ≤ o ∧ o ≤ 107) → h' o = h o) (hS : mS a' h') : MR a' h' := by
  obtain ⟨m1, m2, m3, m4, m5, m6⟩ := M
  have a7 : ∀ i : Int, a' 7 i = a 7 i := fun i => congrFun (ha 7 (by decide)) i
  have h8 : ∀ i : Int, h' 81 i = h 81 i := fun i => congrFun (hh 81 (by decide)) i
  exact ⟨m1.to ⟨ha _ (by decide), ha _ (by decide), ha _ (by decide), ha _ (by decide), ha _ (by decide), ha _ (by decide), ha _ (by decide), a7 0⟩ (a7 4) (a7 5) (hh _ (by decide)) (hh _ (by decide)) (h8 _), m2.to (a7 1) (ha _ (by decide)) (h8 _) (hh _ (by decide)), m3.to (a7 4) (a7 5) (fun o _ _ => ha o (by omega)) (fun i _ => congrFun (hh _ (by decide)) i) (hh _ (by decide)), hS, m5.to (a7 2) (a7 3) (h8 _) (h8 _), m6.to (fun o _ _ => hh o (by omega))⟩
/-! WF, carried over -/
theorem WF.tape {a a' : zMm} (W : WF a) (ha : ∀ o : Nat, o ≠ 7 → o ≠ 8 → a' o = a o) (ha7 : ∀ i : Int, i ≠ 1 → a' 7 i = a 7 i) (hT : (0 ≤ a' 7 1 ∧ a' 7 1 ≤ 320) ∧ ∀ i : Int, 0 ≤ i → i < a' 7 1 → 0 ≤ a' 8 i ∧ a' 8 i ≤ 255) : WF a' := by
  obtain ⟨w1, w2, w3, w4, w5, w6, w7, w8⟩ := W
  unfold WF zMW zWi at *
  rw [ha 0 (by decide) (by decide), ha 1 (by decide) (by decide), ha 2 (by decide) (by decide), ha 3 (by decide) (by decide), ha 4 (by decide) (by decide), ha 5 (by decide) (by decide), ha 6 (by decide) (by decide), ha 10 (by decide) (by decide), ha (10 + 1) (by decide) (by decide), ha (10 + 2) (by decide) (by decide), ha (10 + 3) (by decide) (by decide), ha (10 + 4) (by decide) (by decide), ha (10 + 5) (by decide) (by decide), ha 20 (by decide) (by decide), ha (20 + 1) (by decide) (by decide), ha (20 + 2) (by decide) (by decide), ha (20 + 3) (by decide) (by decide), ha (20 + 4) (by decide) (by decide), ha (20 + 5) (by decide) (by decide), ha7 0 (by decide), ha7 2 (by decide), ha7 3 (by decide), ha7 4 (by decide), ha7 5 (by decide), ha 30 (by decide) (by decide), ha 31 (by decide) (by decide)]
  refine ⟨w1, w2, w3, w4, hT, w6, w7, fun k hk => ?_⟩
  rw [ha (32 + k) (by omega) (by omega)]
  exact w8 k hk
theorem WF.moves {a a' : zMm} (W : WF a) (ha : ∀ o : Nat, o ≠ 5 → o ≠ 6 → o ≠ 7 → a' o = a o) (ha7 : ∀ i : Int, i ≠ 0 → a' 7 i = a 7 i) (hT : zMW a') : WF a' := by
  obtain ⟨w1, w2, w3, w4, w5, w6, w7, w8⟩ := W
  unfold WF zWi at *
  rw [ha 0 (by decide) (by decide) (by decide), ha 1 (by decide) (by decide) (by decide), ha 2 (by decide) (by decide) (by decide), ha 3 (by decide) (by decide) (by decide), ha 4 (by decide) (by decide) (by decide), ha 8 (by decide) (by decide) (by decide), ha 10 (by decide) (by decide) (by decide), ha (10 + 1) (by decide) (by decide) (by decide), ha (10 + 2) (by decide) (by decide) (by decide), ha (10 + 3) (by decide) (by decide) (by decide), ha (10 + 4) (by decide) (by decide) (by decide), ha (10 + 5) (by decide) (by decide) (by decide), ha 20 (by decide) (by decide) (by decide), ha (20 + 1) (by decide) (by decide) (by decide), ha (20 + 2) (by decide) (by decide) (by decide), ha (20 + 3) (by decide) (by decide) (by decide), ha (20 + 4) (by decide) (by decide) (by decide), ha (20 + 5) (by decide) (by decide) (by decide), ha7 1 (by decide), ha7 2 (by decide), ha7 3 (by decide), ha7 4 (by decide), ha7 5 (by decide), ha 30 (by decide) (by decide) (by decide), ha 31 (by decide) (by decide) (by decide)]
  refine ⟨w1, w2, w3, hT, w5, w6, w7, fun k hk => ?_⟩
  rw [ha (32 + k) (by omega) (by omega) (by omega)]
  exact w8 k hk
theorem WF.cells {a a' : zMm} (W : WF a) (ha : ∀ o : Nat, 4 < o → a' o = a o) (h1 : ∀ i : Int, 0 ≤ i → i < 36 → (0 ≤ a' 0 i ∧ a' 0 i ≤ 4) ∧ (0 ≤ a' 1 i ∧ a' 1 i ≤ 60) ∧ (0 ≤ a' 2 i ∧ a' 2 i ≤ 9) ∧ (a' 3 i = -4 ∨ (0 ≤ a' 3 i ∧ a' 3 i ≤ 3)) ∧ (1 < a' 0 i → a' 1 i = 0 ∧ a' 3 i = -4)) (h2 : zRu (a' 4)) (h3 : ¬ a' 0 (a' 4 0) = 2) : WF a' := by
  obtain ⟨w1, w2, w3, w4, w5, w6, w7, w8⟩ := W
  unfold WF zMW zWi at *
  rw [ha 5 (by decide), ha 6 (by decide), ha 7 (by decide), ha 8 (by decide), ha 10 (by decide), ha (10 + 1) (by decide), ha (10 + 2) (by decide), ha (10 + 3) (by decide), ha (10 + 4) (by decide), ha (10 + 5) (by decide), ha 20 (by decide), ha (20 + 1) (by decide), ha (20 + 2) (by decide), ha (20 + 3) (by decide), ha (20 + 4) (by decide), ha (20 + 5) (by decide), ha 30 (by decide), ha 31 (by decide)]
  refine ⟨h1, h2, h3, w4, w5, w6, w7, fun k hk => ?_⟩
  rw [ha (32 + k) (by omega)]
  exact w8 k hk
theorem aFeed_7 (a : zMm) (v : Int) (i : Int) (ci : i ≠ 1) : aFeed a v 7 i = a 7 i := by
  unfold aFeed
  split
  · rw [zU_ne (by omega)]
    unfold zTp
    rw [if_neg (by omega)]
  · rfl
theorem wFeed {a : zMm} {v : Int} (W : WF a) (hv : zRl v) : WF (aFeed a v) := by
  refine W.tape (fun o c1 c2 => ?_) (fun i ci => aFeed_7 a v i ci) ?_
  · unfold aFeed
    split
    · rw [zU_off o c1]
      funext i
      unfold zTp
      rw [if_neg (fun z => c2 z.1)]
    · rfl
  · obtain ⟨h1, h2⟩ := W.2.2.2.2.1
    unfold aFeed
    by_cases c : a 7 1 + 8 ≤ 320
    · rw [if_pos c, zU_eq, zU_off 8 (by decide)]
      refine ⟨by omega, fun i c0 c1 => ?_⟩
      unfold zTp
      by_cases cc : a 7 1 ≤ i
      · rw [if_pos ⟨rfl, cc, c1⟩]
        omega
      · rw [if_neg (by omega)]
        exact h2 i c0 (by omega)
    · rw [if_neg c]
      exact ⟨h1, h2⟩
