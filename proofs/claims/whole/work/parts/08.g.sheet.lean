/-! SHEETS: sheet, lay -/
theorem WF.sheet {a a' : zMm} (W : WF a) (ha : ∀ o : Nat, ¬ (30 ≤ o ∧ o ≤ 35) → a' o = a o) (hS : ∀ k : Nat, k < 4 → (-1 ≤ a' 30 k ∧ a' 30 k ≤ 2) ∧ (0 ≤ a' 31 k ∧ a' 31 k ≤ 48) ∧ ∀ i : Int, 0 ≤ i → i < 48 → zR (a' (32 + k) i)) : WF a' := by
  obtain ⟨w1, w2, w3, w4, w5, w6, w7, w8⟩ := W
  unfold WF zMW zWi at *
  rw [ha 0 (by decide), ha 1 (by decide), ha 2 (by decide), ha 3 (by decide), ha 4 (by decide), ha 5 (by decide), ha 6 (by decide), ha 7 (by decide), ha 8 (by decide), ha 10 (by decide), ha (10 + 1) (by decide), ha (10 + 2) (by decide), ha (10 + 3) (by decide), ha (10 + 4) (by decide), ha (10 + 5) (by decide), ha 20 (by decide), ha (20 + 1) (by decide), ha (20 + 2) (by decide), ha (20 + 3) (by decide), ha (20 + 4) (by decide), ha (20 + 5) (by decide)]
  exact ⟨w1, w2, w3, w4, w5, w6, w7, hS⟩
theorem zFi_of {h : zMm} {o : Nat} {n x : Int} {q : Nat} (hq : q ≠ o) : zFi h o n x q = h q := funext (fun b => zFi_off hq b)
theorem zQ7 {k : Nat} (hk : k < 4) : zS7 zS0 (73 + 2 * k) := by
  rcases (show k = 0 ∨ k = 1 ∨ k = 2 ∨ k = 3 by omega) with e | e | e | e <;> subst e
  · exact q0_73
  · exact q0_75
  · exact q0_77
  · exact q0_79
def zNs (a : zMm) (k : Nat) (lane n : Int) : zMm := fun o i => if o = 30 ∧ i = (k : Int) then lane else if o = 31 ∧ i = (k : Int) then n else if o = 32 + k ∧ 0 ≤ i ∧ i < 48 then 0 else a o i
theorem zNs_at (a : zMm) (k : Nat) (lane n : Int) (hk : k < 4) : (∀ i, zNs a k lane n 30 i = if i = (k : Int) then lane else a 30 i) ∧ (∀ i, zNs a k lane n 31 i = if i = (k : Int) then n else a 31 i) ∧ (∀ q : Nat, q < 4 → ∀ i, zNs a k lane n (32 + q) i = if q = k ∧ 0 ≤ i ∧ i < 48 then 0 else a (32 + q) i) ∧ ∀ o : Nat, ¬ (30 ≤ o ∧ o ≤ 35) → zNs a k lane n o = a o := by
  refine ⟨fun i => ?_, fun i => ?_, fun q hq i => ?_, fun o ho => ?_⟩
  · unfold zNs
    by_cases c : i = (k : Int)
    · rw [if_pos ⟨rfl, c⟩, if_pos c]
    · rw [if_neg (fun z => c z.2), if_neg (fun z => absurd z.1 (by decide)), if_neg (fun z => absurd z.1 (by omega)), if_neg c]
  · unfold zNs
    rw [if_neg (fun z => absurd z.1 (by decide))]
    by_cases c : i = (k : Int)
    · rw [if_pos ⟨rfl, c⟩, if_pos c]
    · rw [if_neg (fun z => c z.2), if_neg (fun z => absurd z.1 (by omega)), if_neg c]
  · unfold zNs
    rw [if_neg (fun z => absurd z.1 (by omega)), if_neg (fun z => absurd z.1 (by omega))]
    by_cases c : q = k ∧ 0 ≤ i ∧ i < 48
    · rw [if_pos c, if_pos (by omega)]
    · rw [if_neg c, if_neg (by omega)]
  · funext i
    unfold zNs
    rw [if_neg (by omega), if_neg (by omega), if_neg (by omega)]
def aSheet (a : zMm) (k lane n : Int) : zMm := if 0 ≤ k ∧ k ≤ 3 ∧ 0 ≤ lane ∧ lane ≤ 2 ∧ 0 ≤ n ∧ n ≤ 48 then zNs a k.toNat lane n else a
def fSheet (k lane n : Int) : Int := if 0 ≤ k ∧ k ≤ 3 ∧ 0 ≤ lane ∧ lane ≤ 2 ∧ n ≤ 48 then (if 0 ≤ n then 1 else -14) else -1
theorem wSheet {a : zMm} {k lane n : Int} (W : WF a) : WF (aSheet a k lane n) := by
  unfold aSheet
  split
  · rename_i c
    obtain ⟨e1, e2, e3, e4⟩ := zNs_at a k.toNat lane n (by omega)
    refine W.sheet e4 (fun q hq => ?_)
    obtain ⟨w1, w2, w3⟩ := W.2.2.2.2.2.2.2 q hq
    rw [e1, e2]
    refine ⟨by split <;> omega, by split <;> omega, fun i i0 i1 => ?_⟩
    rw [e3 q hq]
    split
    · exact ⟨by decide, by decide⟩
    · exact w3 i i0 i1
  · exact W
theorem cSheet {a h : zMm} {v1 v2 v3 : Int} {K : Int → zMm → Prop} (C : CR a h) (r1 : zR v1) (r2 : zR v2) (r3 : zR v3) (hK : ∀ h', CR (aSheet a v1 v2 v3) h' → zHi81 h h' → K (fSheet v1 v2 v3) h') : zCi mX11_sheet [.ref 0, .int (zI v1), .int (zI v2), .int (zI v3)] zS0 h K := by
  unfold aSheet fSheet at hK
  refine wX11_sheet (sX11_isSheet r1 ?_)
  simp only [decide_eq_true_eq, decide_eq_false_iff_not]
  refine ⟨fun c => ?_, fun c => sX11_isLane r2 ?_⟩
  · rw [if_neg (by omega), if_neg (by omega)] at hK
    exact hK h C (fun _ _ => rfl)
  simp only [decide_eq_true_eq, decide_eq_false_iff_not]
  refine ⟨fun d => ?_, fun d => ⟨r3, fun f => ⟨fun g => ⟨by omega, ?_⟩, fun g => ?_⟩, fun f => ?_⟩⟩
  · rw [if_neg (by omega), if_neg (by omega)] at hK
    exact hK h C (fun _ _ => rfl)
  · rw [if_pos (by omega), if_pos (by omega), if_pos g] at hK
    have hk : v1.toNat < 4 := by omega
    have q7 := zQ7 hk
    obtain ⟨e1, e2, e3, e4⟩ := zNs_at a v1.toNat v2 v3 hk
    refine wX7_startAnew q7 (sJ7_fill_i q7.2 (by decide) ?_)
    refine hK _ (C.sheet e4 (fun o ho => ?_) (fun q hq => ?_)) (fun o ho => ?_)
    · rw [zU_off o (by omega), zU_off o (by omega), zFi_of (by omega)]
    · obtain ⟨s1, s2, s3⟩ := C.2.2.2.2.1 q hq
      rw [e1, e2]
      by_cases ce : q = v1.toNat
      · rw [if_pos (by omega), if_pos (by omega), ce]
        refine ⟨?_, ?_, fun i i0 i1 => ?_⟩
        · rw [zU_ne (by omega), zU_eq]
        · rw [zU_eq]
        · rw [e3 _ hk, if_pos ⟨rfl, i0, i1⟩, zU_off _ (by omega), zU_off _ (by omega), show 74 + 2 * v1.toNat = 73 + 2 * v1.toNat + 1 by omega]
          exact zFi_in i0 i1
      · rw [if_neg (by omega), if_neg (by omega)]
        refine ⟨?_, ?_, fun i i0 i1 => ?_⟩
        · rw [zU_off _ (by omega), zU_off _ (by omega), zFi_off (by omega)]
          exact s1
        · rw [zU_off _ (by omega), zU_off _ (by omega), zFi_off (by omega)]
          exact s2
        · rw [e3 _ hq, if_neg (fun z => ce z.1), zU_off _ (by omega), zU_off _ (by omega), zFi_off (by omega)]
          exact s3 i i0 i1
    · rw [zU_off o (by omega), zU_off o (by omega), zFi_of (by omega)]
  · rw [if_neg (by omega), if_pos (by omega), if_neg g] at hK
    exact hK h C (fun _ _ => rfl)
  · rw [if_neg (by omega), if_neg (by omega)] at hK
    exact hK h C (fun _ _ => rfl)
def zFs (h : zMm) (k n : Int) : zMm := fun o i => if o = 107 ∧ 48 * k ≤ i ∧ i < 48 * k + n then 0 else h o i
theorem mSheet {a h : zMm} {v1 v2 v3 : Int} {K : Int → zMm → Prop} (M : MR a h) (r1 : zR v1) (r2 : zR v2) (r3 : zR v3) (hK : ∀ h', MR (aSheet a v1 v2 v3) h' → zLo81 h h' → K (fSheet v1 v2 v3) h') : zCi mX12_sheet [.ref 81, .int (zI v1), .int (zI v2), .int (zI v3)] zS0 h K := by
  unfold aSheet fSheet at hK
  refine wX12_sheet ⟨r1, sX12_in r1 (by decide) (by decide) ?_⟩
  simp only [decide_eq_true_eq, decide_eq_false_iff_not]
  refine ⟨fun c => ?_, fun c => ⟨r2, sX12_in r2 (by decide) (by decide) ?_⟩⟩
  · rw [if_neg (by omega), if_neg (by omega)] at hK
    exact hK h M (fun _ _ => rfl)
  simp only [decide_eq_true_eq, decide_eq_false_iff_not]
  refine ⟨fun d => ?_, fun d => ⟨r3, fun f => ⟨fun g => ⟨by omega, ?_⟩, fun g => ?_⟩, fun f => ?_⟩⟩
  · rw [if_neg (by omega), if_neg (by omega)] at hK
    exact hK h M (fun _ _ => rfl)
  · rw [if_pos (by omega), if_pos (by omega), if_pos g] at hK
    have hk : v1.toNat < 4 := by omega
    obtain ⟨e1, e2, e3, e4⟩ := zNs_at a v1.toNat v2 v3 hk
    generalize eg : zU (zU h 105 v1 v2) 106 v1 v3 = g1
    have key : ∀ (n : Nat) (i : Int), 0 ≤ i → i + n = 48 → RR mX12_sheet 0 0 56 [some (.ref 81), some (.int (zI v1)), none, none, some (.int (zI i))] [] zS0 (zFs g1 v1 i) (zQi zS0 K) := by
      intro n
      induction n with
      | zero =>
        intro i i0 i1
        refine bX12_sheet_56 ⟨⟨by omega, by omega⟩, fun _ => ?_, fun z => absurd (by omega) z⟩
        rw [show i = 48 by omega, ← eg]
        have ez : ∀ o : Nat, ¬ (105 ≤ o ∧ o ≤ 107) → (zFs (zU (zU h 105 v1 v2) 106 v1 v3) v1 48) o = h o := by
          intro o ho
          funext j
          unfold zFs
          rw [if_neg (by omega), zU_off o (by omega), zU_off o (by omega)]
        refine hK _ (M.sheet e4 ez (fun q hq => ?_)) (fun o ho => ez o (by omega))
        obtain ⟨s1, s2, s3⟩ := M.2.2.2.1 q hq
        have f5 : (zFs (zU (zU h 105 v1 v2) 106 v1 v3) v1 48) 105 (q : Int) = if (q : Int) = v1 then v2 else h 105 (q : Int) := by
          unfold zFs
          rw [if_neg (by omega), zU_off 105 (by decide), zU_at]
          simp only [true_and]
        have f6 : (zFs (zU (zU h 105 v1 v2) 106 v1 v3) v1 48) 106 (q : Int) = if (q : Int) = v1 then v3 else h 106 (q : Int) := by
          unfold zFs
          rw [if_neg (by omega), zU_at]
          simp only [true_and]
          rw [zU_off 106 (by decide)]
        have g1 := e1 (q : Int)
        have g2 := e2 (q : Int)
        rw [f5, f6]
        by_cases ce : (q : Int) = v1
        · rw [if_pos (by omega)] at g1 g2
          rw [if_pos ce, if_pos ce, g1, g2]
          refine ⟨by rw [if_neg (by omega)], rfl, fun j j0 j1 => ?_⟩
          rw [e3 q hq, if_pos ⟨by omega, j0, j1⟩]
          unfold zFs
          rw [if_pos ⟨rfl, by omega, by omega⟩]
        · rw [if_neg (by omega)] at g1 g2
          rw [if_neg ce, if_neg ce, g1, g2]
          refine ⟨s1, s2, fun j j0 j1 => ?_⟩
          rw [e3 q hq, if_neg (fun z => ce (by omega))]
          unfold zFs
          rw [if_neg (by omega), zU_off 107 (by decide), zU_off 107 (by decide)]
          exact s3 j j0 j1
      | succ n ih =>
        intro i i0 i1
        refine bX12_sheet_56 ⟨⟨by omega, by omega⟩, fun z => absurd z (by omega), fun _ => ⟨⟨by omega, by omega⟩, ?_⟩⟩
        have e : zU (zFs g1 v1 i) 107 (48 * v1 + i) 0 = zFs g1 v1 (i + 1) := by
          funext o j
          simp only [zU_at]
          unfold zFs
          by_cases c1 : o = 107 ∧ j = 48 * v1 + i
          · rw [if_pos c1, if_pos (by omega)]
          · rw [if_neg c1]
            by_cases c2 : o = 107 ∧ 48 * v1 ≤ j ∧ j < 48 * v1 + i
            · rw [if_pos c2, if_pos (by omega)]
            · rw [if_neg c2, if_neg (by omega)]
        rw [e]
        exact ih (i + 1) (by omega) (by omega)
    have := key 48 0 (by decide) (by decide)
    have e0 : zFs g1 v1 0 = g1 := by
      funext o j
      unfold zFs
      rw [if_neg (by omega)]
    rw [e0] at this
    exact this
  · rw [if_neg (by omega), if_pos (by omega), if_neg g] at hK
    exact hK h M (fun _ _ => rfl)
  · rw [if_neg (by omega), if_neg (by omega)] at hK
    exact hK h M (fun _ _ => rfl)
/-- the fault of taking place p of sheet k as of a lane -/
def fF (a : zMm) (k : Nat) (lane p : Int) : Int := if a 30 k = -1 then 1 else if ¬ lane = a 30 k then 3 else if 0 ≤ p ∧ p < a 31 k then 0 else 2
theorem fF_R (a : zMm) (k : Nat) (lane p : Int) : 0 ≤ fF a k lane p ∧ fF a k lane p ≤ 3 := by
  unfold fF
  split
  · decide
  · split
    · decide
    · split <;> decide
theorem sX7_faultOf {a h : zMm} {K : Int → zMm → Prop} {k : Nat} {lane p : Int} (W : WF a) (S5 : cS a h) (hk : k < 4) (rl : zR lane) (rp : zRl p) (w : K (fF a k lane p) h) : zCi mX7_faultOf [.ref (73 + 2 * k), .int (zI lane), .long (zJ p)] zS0 h K := by
  obtain ⟨s1, s2, s3⟩ := S5 k hk
  obtain ⟨w1, w2, w3⟩ := W.2.2.2.2.2.2.2 k hk
  unfold fF at w
  refine wX7_faultOf (zQ7 hk) (wX7_isNothing (zQ7 hk) ?_)
  rw [s1, s2]
  refine ⟨⟨by omega, by omega⟩, fun c => ⟨rl, ⟨by omega, by omega⟩, fun d => ⟨rp, fun f => ?_, fun f => ⟨⟨by omega, by omega⟩, ⟨by omega, by omega⟩, ?_⟩⟩, fun d => ?_⟩, fun c => ?_⟩
  · have c1 : ¬ a 30 k = -1 := fun z => by rw [if_pos z] at c; cases c
    rw [if_neg c1, if_neg (fun z => z d), if_neg (by omega)] at w
    exact w
  · have c1 : ¬ a 30 k = -1 := fun z => by rw [if_pos z] at c; cases c
    rw [if_neg c1, if_neg (fun z => z d)] at w
    by_cases g : a 31 k ≤ p
    · rw [if_neg (by omega)] at w
      rw [if_pos g]
      exact w
    · rw [if_pos (by omega)] at w
      rw [if_neg g]
      exact w
  · have c1 : ¬ a 30 k = -1 := fun z => by rw [if_pos z] at c; cases c
    rw [if_neg c1, if_pos d] at w
    exact w
  · have c1 : a 30 k = -1 := by
      by_cases z : a 30 k = -1
      · exact z
      · rw [if_neg z] at c
        cases c
    rw [if_pos c1] at w
    exact w
theorem sX7_valueAt {a h : zMm} {K : Int → zMm → Prop} {k : Nat} {i : Int} (W : WF a) (S5 : cS a h) (hk : k < 4) (hi : 0 ≤ i ∧ i < a 31 k) (w : K (a (32 + k) i) h) : zCi mX7_valueAt [.ref (73 + 2 * k), .int (zI i)] zS0 h K := by
  obtain ⟨s1, s2, s3⟩ := S5 k hk
  obtain ⟨w1, w2, w3⟩ := W.2.2.2.2.2.2.2 k hk
  refine wX7_valueAt (zQ7 hk) ?_
  rw [s2]
  refine sX11_isWithin ⟨by omega, by omega⟩ (by decide) ⟨by omega, by omega⟩ ?_
  simp only [decide_eq_true_eq, decide_eq_false_iff_not]
  refine ⟨fun c => absurd (by omega) c, fun c => ⟨⟨by omega, by omega⟩, ?_⟩⟩
  have := s3 i hi.1 (by omega)
  rw [show 73 + 2 * k + 1 = 74 + 2 * k by omega, this]
  exact w
/-- a number as a lane has it -/
def zLn (lane v : Int) : Int := if lane = 0 then iB v else if lane = 1 then iT v else v
theorem iT_bm (x : Int) : iT x = x.bmod 65536 := by
  unfold iT
  rw [Int32.toInt_toInt16, Int32.toInt_ofInt, Int.bmod_bmod_of_dvd (by decide)]
theorem iB_bm (x : Int) : iB x = x.bmod 256 := by
  unfold iB
  rw [Int32.toInt_toInt8, Int32.toInt_ofInt, Int.bmod_bmod_of_dvd (by decide)]
theorem zLn_R {lane v : Int} (hv : zR v) : zR (zLn lane v) := by
  unfold zLn
  split
  · rw [iB_bm]
    have h1 := Int.le_bmod (x := v) (m := 256) (by decide)
    have h2 := Int.bmod_lt (x := v) (m := 256) (by decide)
    exact ⟨by omega, by omega⟩
  · split
    · rw [iT_bm]
      have h1 := Int.le_bmod (x := v) (m := 65536) (by decide)
      have h2 := Int.bmod_lt (x := v) (m := 65536) (by decide)
      exact ⟨by omega, by omega⟩
    · exact hv
theorem iSl_is (v : Int) (s : Nat) (hs : s < 32) : iSl v (s : Int) = (v * (2 ^ s : Nat)).bmod 4294967296 := by
  unfold iSl
  have e : (zI (s : Int) &&& 31 : Int32) = Int32.ofNat s := by
    have : ∀ s : Fin 32, (zI ((s : Nat) : Int) &&& 31 : Int32) = Int32.ofNat s := by decide
    exact this ⟨s, hs⟩
  have e2 : ((Int32.ofNat s).toBitVec.smod 32) = BitVec.ofNat 32 s := by
    have : ∀ s : Fin 32, ((Int32.ofNat s).toBitVec.smod 32) = BitVec.ofNat 32 s := by decide
    exact this ⟨s, hs⟩
  rw [e]
  show ((zI v).toBitVec <<< ((Int32.ofNat s).toBitVec.smod 32)).toInt = _
  rw [e2, BitVec.shiftLeft_eq', BitVec.toInt_eq_toNat_bmod, BitVec.toNat_shiftLeft, BitVec.toNat_ofNat, Nat.mod_eq_of_lt (by omega : s < 2 ^ 32), Nat.shiftLeft_eq]
  have e3 : ((zI v).toBitVec.toNat : Int) = v % 4294967296 := by
    show ((BitVec.ofInt 32 v).toNat : Int) = _
    rw [BitVec.toNat_ofInt]
    have := Int.emod_nonneg v (b := 4294967296) (by decide)
    omega
  rw [Int.natCast_emod, Int.natCast_mul, e3]
  show (((v % 4294967296) * ((2 ^ s : Nat) : Int)) % 4294967296).bmod 4294967296 = _
  rw [show ((4294967296 : Int)) = ((4294967296 : Nat) : Int) from rfl, Int.emod_bmod, ← Int.emod_bmod, Int.mul_emod, Int.emod_emod, ← Int.mul_emod, Int.emod_bmod]
theorem iSr_is {v : Int} (hv : zR v) (s : Nat) (hs : s < 32) : iSr v (s : Int) = v / (2 ^ s : Nat) := by
  unfold iSr
  have e : (zI (s : Int) &&& 31 : Int32) = Int32.ofNat s := by
    have : ∀ s : Fin 32, (zI ((s : Nat) : Int) &&& 31 : Int32) = Int32.ofNat s := by decide
    exact this ⟨s, hs⟩
  have e2 : ((Int32.ofNat s).toBitVec.smod 32) = BitVec.ofNat 32 s := by
    have : ∀ s : Fin 32, ((Int32.ofNat s).toBitVec.smod 32) = BitVec.ofNat 32 s := by decide
    exact this ⟨s, hs⟩
  rw [e]
  show (BitVec.sshiftRight' (zI v).toBitVec ((Int32.ofNat s).toBitVec.smod 32)).toInt = _
  rw [e2, BitVec.sshiftRight_eq', BitVec.toInt_sshiftRight, BitVec.toNat_ofNat, Nat.mod_eq_of_lt (by omega : s < 2 ^ 32), Int.shiftRight_eq_div_pow]
  show (zI v).toInt / _ = _
  rw [zI_to hv]
theorem iSr_8 (v : Int) : iSr (iSl v 24) 24 = iB v := by
  have h1 := iSl_is v 24 (by decide)
  rw [show ((24 : Nat) : Int) = 24 from rfl] at h1
  have b1 := Int.le_bmod (x := v * ((2 ^ 24 : Nat) : Int)) (m := 4294967296) (by decide)
  have b2 := Int.bmod_lt (x := v * ((2 ^ 24 : Nat) : Int)) (m := 4294967296) (by decide)
  have h2 := iSr_is (v := (v * ((2 ^ 24 : Nat) : Int)).bmod 4294967296) ⟨by omega, by omega⟩ 24 (by decide)
  rw [show ((24 : Nat) : Int) = 24 from rfl] at h2
  rw [h1, h2, iB_bm, Int.bmod_def, Int.bmod_def, show ((2 ^ 24 : Nat) : Int) = 16777216 by decide]
  split <;> split <;> omega
theorem iSr_16 (v : Int) : iSr (iSl v 16) 16 = iT v := by
  have h1 := iSl_is v 16 (by decide)
  rw [show ((16 : Nat) : Int) = 16 from rfl] at h1
  have b1 := Int.le_bmod (x := v * ((2 ^ 16 : Nat) : Int)) (m := 4294967296) (by decide)
  have b2 := Int.bmod_lt (x := v * ((2 ^ 16 : Nat) : Int)) (m := 4294967296) (by decide)
  have h2 := iSr_is (v := (v * ((2 ^ 16 : Nat) : Int)).bmod 4294967296) ⟨by omega, by omega⟩ 16 (by decide)
  rw [show ((16 : Nat) : Int) = 16 from rfl] at h2
  rw [h1, h2, iT_bm, Int.bmod_def, Int.bmod_def, show ((2 ^ 16 : Nat) : Int) = 65536 by decide]
  split <;> split <;> omega
