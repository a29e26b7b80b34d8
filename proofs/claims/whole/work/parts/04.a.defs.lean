/-! booleans, compares -/
def bI (b : Bool) : Int := if b then 1 else 0
theorem bI_0 {b : Bool} : bI b = 0 ↔ b = false := by cases b <;> simp [bI]
theorem bI_n {b : Bool} : ¬ bI b = 0 ↔ b = true := by cases b <;> simp [bI]
theorem bI_ft {b : Bool} (h : b = false) : ¬ b = true := by rw [h]; decide
theorem bI_R (b : Bool) : zR (bI b) := by cases b <;> exact ⟨by decide, by decide⟩
theorem bI_01 (b : Bool) : bI b = 0 ∨ bI b = 1 := by cases b <;> simp [bI]
theorem bI_nar (b : Bool) : narrow .boolean (.int (zI (bI b))) = .int (zI (bI b)) := by cases b <;> rfl
theorem zCmp_lt {x y : Int} : zCmp x y < 0 ↔ x < y := by unfold zCmp; split <;> (try split) <;> omega
theorem zCmp_eq {x y : Int} : zCmp x y = 0 ↔ x = y := by unfold zCmp; split <;> (try split) <;> omega
theorem zCmp_ne {x y : Int} : ¬ zCmp x y = 0 ↔ ¬ x = y := by unfold zCmp; split <;> (try split) <;> omega
theorem zCmp_ge {x y : Int} : 0 ≤ zCmp x y ↔ y ≤ x := by unfold zCmp; split <;> (try split) <;> omega
theorem zCmp_gt {x y : Int} : 0 < zCmp x y ↔ y < x := by unfold zCmp; split <;> (try split) <;> omega
theorem zCmp_le {x y : Int} : zCmp x y ≤ 0 ↔ x ≤ y := by unfold zCmp; split <;> (try split) <;> omega
theorem zCmp_R (x y : Int) : zR (zCmp x y) := by unfold zCmp; split <;> (try split) <;> exact ⟨by decide, by decide⟩
/-! contracts, by what a method answers -/
def zQv (S : zSh) (K : zMm → Prop) : Option Value → zSh → zMm → Prop := fun r S' h' => S = S' ∧ r = none ∧ K h'
def zQi (S : zSh) (K : Int → zMm → Prop) : Option Value → zSh → zMm → Prop := fun r S' h' => S = S' ∧ ∃ x : Int, r = some (.int (zI x)) ∧ K x h'
def zQb (S : zSh) (K : Bool → zMm → Prop) : Option Value → zSh → zMm → Prop := fun r S' h' => S = S' ∧ ∃ b : Bool, r = some (.int (zI (bI b))) ∧ K b h'
def zQl (S : zSh) (K : Int → zMm → Prop) : Option Value → zSh → zMm → Prop := fun r S' h' => S = S' ∧ ∃ x : Int, r = some (.long (zJ x)) ∧ K x h'
def zQr (S : zSh) (K : Nat → zMm → Prop) : Option Value → zSh → zMm → Prop := fun r S' h' => S = S' ∧ ∃ a : Nat, r = some (.ref a) ∧ K a h'
def zCv (μ : zMi) (as : List Value) (S : zSh) (h : zMm) (K : zMm → Prop) : Prop := zCC μ as S h (zQv S K)
def zCi (μ : zMi) (as : List Value) (S : zSh) (h : zMm) (K : Int → zMm → Prop) : Prop := zCC μ as S h (zQi S K)
def zCb (μ : zMi) (as : List Value) (S : zSh) (h : zMm) (K : Bool → zMm → Prop) : Prop := zCC μ as S h (zQb S K)
def zCl (μ : zMi) (as : List Value) (S : zSh) (h : zMm) (K : Int → zMm → Prop) : Prop := zCC μ as S h (zQl S K)
def zCr (μ : zMi) (as : List Value) (S : zSh) (h : zMm) (K : Nat → zMm → Prop) : Prop := zCC μ as S h (zQr S K)
theorem zCv.mono {μ : zMi} {as : List Value} {S : zSh} {h : zMm} {K K' : zMm → Prop} (hR : zCv μ as S h K) (hK : ∀ h', K h' → K' h') : zCv μ as S h K' := zCC.mono hR (fun r S' h' ⟨a, b, c⟩ => ⟨a, b, hK _ c⟩)
theorem zCi.mono {μ : zMi} {as : List Value} {S : zSh} {h : zMm} {K K' : Int → zMm → Prop} (hR : zCi μ as S h K) (hK : ∀ x h', K x h' → K' x h') : zCi μ as S h K' := zCC.mono hR (fun r S' h' ⟨a, x, b, c⟩ => ⟨a, x, b, hK _ _ c⟩)
theorem zCb.mono {μ : zMi} {as : List Value} {S : zSh} {h : zMm} {K K' : Bool → zMm → Prop} (hR : zCb μ as S h K) (hK : ∀ x h', K x h' → K' x h') : zCb μ as S h K' := zCC.mono hR (fun r S' h' ⟨a, x, b, c⟩ => ⟨a, x, b, hK _ _ c⟩)
theorem zCl.mono {μ : zMi} {as : List Value} {S : zSh} {h : zMm} {K K' : Int → zMm → Prop} (hR : zCl μ as S h K) (hK : ∀ x h', K x h' → K' x h') : zCl μ as S h K' := zCC.mono hR (fun r S' h' ⟨a, x, b, c⟩ => ⟨a, x, b, hK _ _ c⟩)
theorem zCr.mono {μ : zMi} {as : List Value} {S : zSh} {h : zMm} {K K' : Nat → zMm → Prop} (hR : zCr μ as S h K) (hK : ∀ x h', K x h' → K' x h') : zCr μ as S h K' := zCC.mono hR (fun r S' h' ⟨a, x, b, c⟩ => ⟨a, x, b, hK _ _ c⟩)
def zSb : List (Option Value) → List (Option Value) → Prop
  | [], _ => True
  | none :: l', _ :: l => zSb l' l
  | some v :: l', x :: l => x = some v ∧ zSb l' l
  | _ :: _, [] => False
theorem zSb_of : ∀ {L' L : List (Option Value)}, zSb L' L → ∀ (i : Nat) (v : Value), L'[i]? = some (some v) → L[i]? = some (some v)
  | [], _, _, i, v, hi => by simp at hi
  | none :: l', x :: l, hz, i, v, hi => by
    cases i with
    | zero => simp at hi
    | succ i => simpa using zSb_of (L' := l') (L := l) hz i v (by simpa using hi)
  | some w :: l', x :: l, hz, i, v, hi => by
    cases i with
    | zero => simp at hi; subst hi; simp [hz.1]
    | succ i => simpa using zSb_of (L' := l') (L := l) hz.2 i v (by simpa using hi)
  | none :: _, [], hz, _, _, _ => by cases hz
  | some _ :: _, [], hz, _, _, _ => by cases hz
/-! THE SHAPE of the two objects -/
def zG3 (S : zSh) (g : Nat) : Prop := S[g]? = some (3, 5, [some (g + 1), some (g + 2), some (g + 3), some (g + 4), some (g + 5)]) ∧ S[g + 1]? = some (20, 36, []) ∧ S[g + 2]? = some (20, 36, []) ∧ S[g + 3]? = some (20, 36, []) ∧ S[g + 4]? = some (20, 36, []) ∧ S[g + 5]? = some (20, 8, [])
def zM5 (S : zSh) (m : Nat) : Prop := S[m]? = some (5, 3, [some (m + 1), some (m + 2), none]) ∧ S[m + 1]? = some (20, 24, []) ∧ S[m + 2]? = some (20, 24, [])
def zS7 (S : zSh) (q : Nat) : Prop := S[q]? = some (7, 3, [some (q + 1), none, none]) ∧ S[q + 1]? = some (20, 48, [])
def zS0 : zSh := [(11, 16, [some 1, some 3, some 10, some 16, some 19, some 22, some 25, some 28, some 31, some 47, some 48, some 51, some 64, some 71, some 72, none]), (8, 6, [some 2, none, none, none, none, none]), (22, 320, []), (9, 7, [some 4, none, none, none, none, none, none]), (3, 5, [some 5, some 6, some 7, some 8, some 9]), (20, 36, []), (20, 36, []), (20, 36, []), (20, 36, []), (20, 8, []), (3, 5, [some 11, some 12, some 13, some 14, some 15]), (20, 36, []), (20, 36, []), (20, 36, []), (20, 36, []), (20, 8, []), (5, 3, [some 17, some 18, none]), (20, 24, []), (20, 24, []), (5, 3, [some 20, some 21, none]), (20, 24, []), (20, 24, []), (10, 16, [some 23, some 24, none, none, none, none, none, none, none, none, none, none, none, none, none, none]), (20, 36, []), (20, 36, []), (1, 8, [some 26, some 27, none, none, none, none, none, none]), (20, 121, []), (20, 36, []), (2, 2, [some 29, some 30]), (20, 36, []), (20, 36, []), (4, 20, [some 32, some 38, some 39, some 40, some 41, some 42, some 43, some 44, some 45, some 46, none, none, none, none, none, none, none, none, none, none]), (3, 5, [some 33, some 34, some 35, some 36, some 37]), (20, 36, []), (20, 36, []), (20, 36, []), (20, 36, []), (20, 8, []), (20, 144, []), (20, 144, []), (20, 36, []), (20, 7, []), (20, 4032, []), (20, 3584, []), (20, 144, []), (23, 144, []), (20, 252, []), (6, 5, [none, none, none, none, none]), (0, 5, [some 49, some 50, none, none, none]), (21, 144, []), (21, 144, []), (24, 2, [some 52, some 58]), (3, 5, [some 53, some 54, some 55, some 56, some 57]), (20, 36, []), (20, 36, []), (20, 36, []), (20, 36, []), (20, 8, []), (3, 5, [some 59, some 60, some 61, some 62, some 63]), (20, 36, []), (20, 36, []), (20, 36, []), (20, 36, []), (20, 8, []), (25, 2, [some 65, some 68]), (5, 3, [some 66, some 67, none]), (20, 24, []), (20, 24, []), (5, 3, [some 69, some 70, none]), (20, 24, []), (20, 24, []), (23, 2, []), (26, 4, [some 73, some 75, some 77, some 79]), (7, 3, [some 74, none, none]), (20, 48, []), (7, 3, [some 76, none, none]), (20, 48, []), (7, 3, [some 78, none, none]), (20, 48, []), (7, 3, [some 80, none, none]), (20, 48, []), (12, 51, [some 82, none, none, none, none, none, none, none, none, some 83, some 84, some 85, some 86, some 87, some 88, some 89, some 90, some 91, none, none, some 92, none, some 93, some 94, some 95, some 96, some 97, none, none, none, none, none, some 98, some 99, none, some 100, none, none, some 101, none, none, none, none, none, some 102, some 103, some 104, some 105, some 106, some 107, none]), (20, 320, []), (20, 11, []), (20, 40, []), (20, 8, []), (20, 8, []), (20, 8, []), (20, 8, []), (20, 8, []), (20, 36, []), (20, 36, []), (20, 600, []), (20, 10, []), (20, 36, []), (20, 36, []), (20, 121, []), (20, 121, []), (20, 36, []), (20, 18432, []), (20, 1000, []), (20, 36, []), (21, 144, []), (21, 144, []), (23, 2, []), (20, 4, []), (20, 4, []), (20, 192, [])]
theorem s0_0 : zS0[0]? = some (11, 16, [some 1, some 3, some 10, some 16, some 19, some 22, some 25, some 28, some 31, some 47, some 48, some 51, some 64, some 71, some 72, none]) := rfl
theorem s0_1 : zS0[1]? = some (8, 6, [some 2, none, none, none, none, none]) := rfl
theorem s0_2 : zS0[2]? = some (22, 320, []) := rfl
theorem s0_3 : zS0[3]? = some (9, 7, [some 4, none, none, none, none, none, none]) := rfl
theorem s0_4 : zS0[4]? = some (3, 5, [some 5, some 6, some 7, some 8, some 9]) := rfl
theorem s0_5 : zS0[5]? = some (20, 36, []) := rfl
theorem s0_6 : zS0[6]? = some (20, 36, []) := rfl
theorem s0_7 : zS0[7]? = some (20, 36, []) := rfl
theorem s0_8 : zS0[8]? = some (20, 36, []) := rfl
theorem s0_9 : zS0[9]? = some (20, 8, []) := rfl
theorem s0_10 : zS0[10]? = some (3, 5, [some 11, some 12, some 13, some 14, some 15]) := rfl
theorem s0_11 : zS0[11]? = some (20, 36, []) := rfl
theorem s0_12 : zS0[12]? = some (20, 36, []) := rfl
theorem s0_13 : zS0[13]? = some (20, 36, []) := rfl
theorem s0_14 : zS0[14]? = some (20, 36, []) := rfl
theorem s0_15 : zS0[15]? = some (20, 8, []) := rfl
theorem s0_16 : zS0[16]? = some (5, 3, [some 17, some 18, none]) := rfl
theorem s0_17 : zS0[17]? = some (20, 24, []) := rfl
theorem s0_18 : zS0[18]? = some (20, 24, []) := rfl
theorem s0_19 : zS0[19]? = some (5, 3, [some 20, some 21, none]) := rfl
theorem s0_20 : zS0[20]? = some (20, 24, []) := rfl
theorem s0_21 : zS0[21]? = some (20, 24, []) := rfl
theorem s0_22 : zS0[22]? = some (10, 16, [some 23, some 24, none, none, none, none, none, none, none, none, none, none, none, none, none, none]) := rfl
theorem s0_23 : zS0[23]? = some (20, 36, []) := rfl
theorem s0_24 : zS0[24]? = some (20, 36, []) := rfl
theorem s0_25 : zS0[25]? = some (1, 8, [some 26, some 27, none, none, none, none, none, none]) := rfl
theorem s0_26 : zS0[26]? = some (20, 121, []) := rfl
theorem s0_27 : zS0[27]? = some (20, 36, []) := rfl
theorem s0_28 : zS0[28]? = some (2, 2, [some 29, some 30]) := rfl
theorem s0_29 : zS0[29]? = some (20, 36, []) := rfl
theorem s0_30 : zS0[30]? = some (20, 36, []) := rfl
theorem s0_31 : zS0[31]? = some (4, 20, [some 32, some 38, some 39, some 40, some 41, some 42, some 43, some 44, some 45, some 46, none, none, none, none, none, none, none, none, none, none]) := rfl
theorem s0_32 : zS0[32]? = some (3, 5, [some 33, some 34, some 35, some 36, some 37]) := rfl
theorem s0_33 : zS0[33]? = some (20, 36, []) := rfl
theorem s0_34 : zS0[34]? = some (20, 36, []) := rfl
theorem s0_35 : zS0[35]? = some (20, 36, []) := rfl
theorem s0_36 : zS0[36]? = some (20, 36, []) := rfl
theorem s0_37 : zS0[37]? = some (20, 8, []) := rfl
theorem s0_38 : zS0[38]? = some (20, 144, []) := rfl
theorem s0_39 : zS0[39]? = some (20, 144, []) := rfl
theorem s0_40 : zS0[40]? = some (20, 36, []) := rfl
theorem s0_41 : zS0[41]? = some (20, 7, []) := rfl
theorem s0_42 : zS0[42]? = some (20, 4032, []) := rfl
theorem s0_43 : zS0[43]? = some (20, 3584, []) := rfl
theorem s0_44 : zS0[44]? = some (20, 144, []) := rfl
theorem s0_45 : zS0[45]? = some (23, 144, []) := rfl
theorem s0_46 : zS0[46]? = some (20, 252, []) := rfl
theorem s0_47 : zS0[47]? = some (6, 5, [none, none, none, none, none]) := rfl
theorem s0_48 : zS0[48]? = some (0, 5, [some 49, some 50, none, none, none]) := rfl
theorem s0_49 : zS0[49]? = some (21, 144, []) := rfl
theorem s0_50 : zS0[50]? = some (21, 144, []) := rfl
theorem s0_51 : zS0[51]? = some (24, 2, [some 52, some 58]) := rfl
theorem s0_52 : zS0[52]? = some (3, 5, [some 53, some 54, some 55, some 56, some 57]) := rfl
theorem s0_53 : zS0[53]? = some (20, 36, []) := rfl
theorem s0_54 : zS0[54]? = some (20, 36, []) := rfl
theorem s0_55 : zS0[55]? = some (20, 36, []) := rfl
theorem s0_56 : zS0[56]? = some (20, 36, []) := rfl
theorem s0_57 : zS0[57]? = some (20, 8, []) := rfl
theorem s0_58 : zS0[58]? = some (3, 5, [some 59, some 60, some 61, some 62, some 63]) := rfl
theorem s0_59 : zS0[59]? = some (20, 36, []) := rfl
theorem s0_60 : zS0[60]? = some (20, 36, []) := rfl
theorem s0_61 : zS0[61]? = some (20, 36, []) := rfl
theorem s0_62 : zS0[62]? = some (20, 36, []) := rfl
theorem s0_63 : zS0[63]? = some (20, 8, []) := rfl
theorem s0_64 : zS0[64]? = some (25, 2, [some 65, some 68]) := rfl
theorem s0_65 : zS0[65]? = some (5, 3, [some 66, some 67, none]) := rfl
theorem s0_66 : zS0[66]? = some (20, 24, []) := rfl
theorem s0_67 : zS0[67]? = some (20, 24, []) := rfl
theorem s0_68 : zS0[68]? = some (5, 3, [some 69, some 70, none]) := rfl
theorem s0_69 : zS0[69]? = some (20, 24, []) := rfl
theorem s0_70 : zS0[70]? = some (20, 24, []) := rfl
theorem s0_71 : zS0[71]? = some (23, 2, []) := rfl
theorem s0_72 : zS0[72]? = some (26, 4, [some 73, some 75, some 77, some 79]) := rfl
theorem s0_73 : zS0[73]? = some (7, 3, [some 74, none, none]) := rfl
theorem s0_74 : zS0[74]? = some (20, 48, []) := rfl
theorem s0_75 : zS0[75]? = some (7, 3, [some 76, none, none]) := rfl
theorem s0_76 : zS0[76]? = some (20, 48, []) := rfl
theorem s0_77 : zS0[77]? = some (7, 3, [some 78, none, none]) := rfl
theorem s0_78 : zS0[78]? = some (20, 48, []) := rfl
theorem s0_79 : zS0[79]? = some (7, 3, [some 80, none, none]) := rfl
theorem s0_80 : zS0[80]? = some (20, 48, []) := rfl
theorem s0_81 : zS0[81]? = some (12, 51, [some 82, none, none, none, none, none, none, none, none, some 83, some 84, some 85, some 86, some 87, some 88, some 89, some 90, some 91, none, none, some 92, none, some 93, some 94, some 95, some 96, some 97, none, none, none, none, none, some 98, some 99, none, some 100, none, none, some 101, none, none, none, none, none, some 102, some 103, some 104, some 105, some 106, some 107, none]) := rfl
theorem s0_82 : zS0[82]? = some (20, 320, []) := rfl
theorem s0_83 : zS0[83]? = some (20, 11, []) := rfl
theorem s0_84 : zS0[84]? = some (20, 40, []) := rfl
theorem s0_85 : zS0[85]? = some (20, 8, []) := rfl
theorem s0_86 : zS0[86]? = some (20, 8, []) := rfl
theorem s0_87 : zS0[87]? = some (20, 8, []) := rfl
theorem s0_88 : zS0[88]? = some (20, 8, []) := rfl
theorem s0_89 : zS0[89]? = some (20, 8, []) := rfl
theorem s0_90 : zS0[90]? = some (20, 36, []) := rfl
theorem s0_91 : zS0[91]? = some (20, 36, []) := rfl
theorem s0_92 : zS0[92]? = some (20, 600, []) := rfl
theorem s0_93 : zS0[93]? = some (20, 10, []) := rfl
theorem s0_94 : zS0[94]? = some (20, 36, []) := rfl
theorem s0_95 : zS0[95]? = some (20, 36, []) := rfl
theorem s0_96 : zS0[96]? = some (20, 121, []) := rfl
theorem s0_97 : zS0[97]? = some (20, 121, []) := rfl
theorem s0_98 : zS0[98]? = some (20, 36, []) := rfl
theorem s0_99 : zS0[99]? = some (20, 18432, []) := rfl
theorem s0_100 : zS0[100]? = some (20, 1000, []) := rfl
theorem s0_101 : zS0[101]? = some (20, 36, []) := rfl
theorem s0_102 : zS0[102]? = some (21, 144, []) := rfl
theorem s0_103 : zS0[103]? = some (21, 144, []) := rfl
theorem s0_104 : zS0[104]? = some (23, 2, []) := rfl
theorem s0_105 : zS0[105]? = some (20, 4, []) := rfl
theorem s0_106 : zS0[106]? = some (20, 4, []) := rfl
theorem s0_107 : zS0[107]? = some (20, 192, []) := rfl
theorem g0_4 : zG3 zS0 4 := ⟨rfl, rfl, rfl, rfl, rfl, rfl⟩
theorem g0_10 : zG3 zS0 10 := ⟨rfl, rfl, rfl, rfl, rfl, rfl⟩
theorem g0_32 : zG3 zS0 32 := ⟨rfl, rfl, rfl, rfl, rfl, rfl⟩
theorem g0_52 : zG3 zS0 52 := ⟨rfl, rfl, rfl, rfl, rfl, rfl⟩
theorem g0_58 : zG3 zS0 58 := ⟨rfl, rfl, rfl, rfl, rfl, rfl⟩
theorem m0_16 : zM5 zS0 16 := ⟨rfl, rfl, rfl⟩
theorem m0_19 : zM5 zS0 19 := ⟨rfl, rfl, rfl⟩
theorem m0_65 : zM5 zS0 65 := ⟨rfl, rfl, rfl⟩
theorem m0_68 : zM5 zS0 68 := ⟨rfl, rfl, rfl⟩
theorem q0_73 : zS7 zS0 73 := ⟨rfl, rfl⟩
theorem q0_75 : zS7 zS0 75 := ⟨rfl, rfl⟩
theorem q0_77 : zS7 zS0 77 := ⟨rfl, rfl⟩
theorem q0_79 : zS7 zS0 79 := ⟨rfl, rfl⟩
theorem zAr24 {k : Int} (hk : 0 ≤ k ∧ k < 2) : ([some 52, some 58] : List (Option Nat)).getD k.toNat none = some (52 + 6 * k.toNat) ∧ zG3 zS0 (52 + 6 * k.toNat) := by
  rcases (show k = 0 ∨ k = 1 by omega) with rfl | rfl
  · exact ⟨rfl, g0_52⟩
  · exact ⟨rfl, g0_58⟩
theorem zAr25 {k : Int} (hk : 0 ≤ k ∧ k < 2) : ([some 65, some 68] : List (Option Nat)).getD k.toNat none = some (65 + 3 * k.toNat) ∧ zM5 zS0 (65 + 3 * k.toNat) := by
  rcases (show k = 0 ∨ k = 1 by omega) with rfl | rfl
  · exact ⟨rfl, m0_65⟩
  · exact ⟨rfl, m0_68⟩
theorem zAr26 {k : Int} (hk : 0 ≤ k ∧ k < 4) : ([some 73, some 75, some 77, some 79] : List (Option Nat)).getD k.toNat none = some (73 + 2 * k.toNat) ∧ zS7 zS0 (73 + 2 * k.toNat) := by
  rcases (show k = 0 ∨ k = 1 ∨ k = 2 ∨ k = 3 by omega) with rfl | rfl | rfl | rfl
  · exact ⟨rfl, q0_73⟩
  · exact ⟨rfl, q0_75⟩
  · exact ⟨rfl, q0_77⟩
  · exact ⟨rfl, q0_79⟩
abbrev zSt0 : String × Nat × List Int := ("LEAST_TOLD", 1200, [0, 0, 1, 1, 0, 1, 0, 0])
abbrev zSt1 : String × Nat × List Int := ("MOST_TOLD", 1201, [35, 3, 4, 200, 9, 99, 999, 60])
abbrev zSt2 : String × Nat × List Int := ("TOLD_AT_FIRST", 1202, [0, 1, 2, 30, 2, 20, 0, 3])
theorem zSt_0 : zSt0 ∈ zSt := List.mem_of_getElem? (i := 0) rfl
theorem zSt_1 : zSt1 ∈ zSt := List.mem_of_getElem? (i := 1) rfl
theorem zSt_2 : zSt2 ∈ zSt := List.mem_of_getElem? (i := 2) rfl
theorem zLen_s {j : Nat} (hj : j < 11) : zLen.getD j 0 < 100 := by
  have : ∀ j, j < 11 → zLen.getD j 0 < 100 := by decide
  exact this j hj
