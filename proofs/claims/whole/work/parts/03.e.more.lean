def zN (h : zMm) (o : Nat) : zMm := fun a b => if a = o then 0 else h a b
theorem zN_off {h : zMm} {o : Nat} : ∀ a, a ≠ o → zN h o a = h a := by
  intro a ha
  funext b
  unfold zN
  rw [if_neg ha]
theorem zN_at (h : zMm) (o : Nat) (b : Int) : zN h o o b = 0 := by simp [zN]
def lUr (x y : Int) : Int := ((zJ x).toUInt64 >>> ((zI y).toInt64.toUInt64 &&& Int64.toUInt64 63)).toInt64.toInt
theorem zI_C (j : Nat) (hj : j < 65536) : ((zI (j : Int)).toUInt32 % 65536).toInt32 = zI (j : Int) := by
  apply Int32.toBitVec.inj
  apply BitVec.eq_of_toNat_eq
  have e : (zI (j : Int)).toBitVec = BitVec.ofInt 32 (j : Int) := rfl
  have e2 : (BitVec.ofInt 32 (j : Int)).toNat = j := by
    rw [BitVec.toNat_ofInt]
    omega
  show ((zI (j : Int)).toUInt32 % 65536).toBitVec.toNat = (zI (j : Int)).toBitVec.toNat
  rw [UInt32.toBitVec_mod, BitVec.toNat_umod]
  show (zI (j : Int)).toBitVec.toNat % 65536 = _
  rw [e, e2, Nat.mod_eq_of_lt hj]
theorem zNarC {x : Int} (hx : 0 ≤ x ∧ x < 65536) : narrow .char (.int (zI x)) = .int (zI x) := by
  obtain ⟨j, rfl⟩ := Int.eq_ofNat_of_zero_le hx.1
  exact congrArg Value.int (zI_C j (by omega))
theorem zW_size {p : Program} {l : Launch} {e : Env} {R : Room} {s : State} {m : MethodId} {args : Array Value} {below : List Frame} {meth : Method} {c : Code} {H : Heap} {locs : List Loc} {k n : Nat} {Z : State → Prop} {g : JFrame} (hh : H.size ≤ s.heap.size + k → W p l e R s m args below meth c H locs k n Z g) : W p l e R s m args below meth c H locs k n Z g :=
  fun T hT X => hh (by rw [← hT]; exact X.same.2.2.1) T hT X
/-- one cell more -/
theorem zH.push {dC : Nat → ClassId} {dI : Nat → Nat → Nat} {ca : Nat → ClassId} {ρ : Nat → Nat} {B : Nat} {A : Nat → Prop} {s : State} {S : zSh} {h : zMm} {H H1 : Heap} {locs : List Loc} {d : zDe} (hH : zH dC dI ca ρ B A s S h H locs) (hA : ∀ q, s.heap.size ≤ q → A q) (hq : H.size = B + S.length) (hr : ρ S.length = H.size) (z1 : H1.size = H.size + 1) (o1 : ∀ q : Nat, q < H.size → H1[q]? = H[q]?)
    (hn : va_at (dC, dI) vwCl (ρ S.length, zEn ρ ca (zN h S.length) S.length d) H1) : zH dC dI ca ρ B A s (S ++ [d]) (zN h S.length) H1 locs := by
  have hk : ∀ (k : Nat) (x : Nat × va_E), (zWl ρ ca S h)[k]? = some x → H1[x.1]? = H[x.1]? := fun k x hx => o1 x.1 ((hH.1 k x hx).lt)
  refine ⟨?_, ?_, ⟨Nat.le_trans hH.2.2.1.1 (by omega), fun x h1 h2 => (o1 x (Nat.lt_of_lt_of_le h1 hH.2.2.1.1)).trans (hH.2.2.1.2.1 x h1 h2), hH.2.2.1.2.2⟩, by rw [List.length_append, z1, hq]; exact Nat.le_refl _⟩
  · rw [zWl_push zN_off]
    refine (hH.1.kept hk).app (fun k x hx => ?_)
    have hz : k < 1 := (List.getElem?_eq_some_iff.mp hx).1
    rw [show k = 0 by omega] at hx
    cases hx
    exact hn
  · rw [zWl_push zN_off]
    exact hH.2.1.push hH.1 hr (by rw [hr]; exact hA _ hH.2.2.1.1)
theorem r_new {μ : zMi} {k n pc : Nat} {L : List (Option Value)} {st : List Value} {S : zSh} {h : zMm} {Q : Option Value → zSh → zMm → Prop} {ci N idx : Nat} {C : String} {T : u_T} (hc : vwCl[ci]? = some (C, T, N)) (hin : ∀ w ∈ u_ws C T N, w ∈ zTb) (ty0 : Nat → FieldType) (hty : ∀ k, k < N → parseFieldDescriptor (T k).2.2.1 = some (ty0 k)) (hdf : ∀ j, j < N → defaultValue (ty0 j) = match zTy ci j with | 0 => .int 0 | 1 => .long 0 | _ => .null)
    (hcl : Cond.classLink μ.1.cls idx C ∈ zTb) (hins : Cond.instantiable C N ∈ zTb) (hini : Cond.initialized C ∈ zTb) (hd : decode μ.2.1 pc = .ok (.new idx, 3)) (hlen : S.length < 1000) (hk : k + 1 ≤ μ.2.2.2.2.1.cells) (hn : n + N ≤ μ.2.2.2.2.1.slots) (kk : RR μ (k + 1) (n + N) (pc + 3) L (.ref S.length :: st) (S ++ [(ci, N, List.replicate N none)]) (zN h S.length) Q) : RR μ k n pc L st S h Q := by
  intro p l e s m args below meth c dC dI ca ρ B A Z H locs ls hC hG hN hH hL
  refine zW_size (fun hsz => ?_)
  have hq : H.size = B + S.length := by have := hH.2.2.2; omega
  have hr : ρ S.length = H.size := by rw [hC.2.2.2.2.2.2.2.2.2.1 _ hlen, hq]
  have hKn := hC.2.2.2.2.2.2.2.2.1.1 ci _ hc
  refine W.newcK hC.1 hC.2.1 hC.2.2.2.2.1 (hC.2.2.2.2.2.1 _ hcl) (hC.2.2.2.2.2.1 _ hins) (hC.2.2.2.2.2.1 _ hini) rfl hd hk hn hKn.2.1 rfl (fun H1 kC hkC e1 z1 o1 => ?_)
  have hfs : ∀ j, j < N → defaultValue (ty0 j) = vp_V ((List.range N).map (zFv ρ (zN h S.length) S.length (ci, N, List.replicate N none))) j := by
    intro j hj
    unfold vp_V
    rw [List.getD_eq_getElem?_getD, zRg_at _ hj, hdf j hj]
    unfold zFv
    rw [zN_at]
    have e : (List.replicate N (none : Option Nat)).getD j none = none := by
      rw [List.getD_eq_getElem?_getD, List.getElem?_replicate]
      split <;> rfl
    show _ = (match zTy ci j with | 0 => Value.int (zI 0) | 1 => Value.long (zJ 0) | _ => va_rf (((List.replicate N (none : Option Nat)).getD j none).map ρ))
    rw [e]
    rfl
  have hnew : va_at (dC, dI) vwCl (ρ S.length, zEn ρ ca (zN h S.length) S.length (ci, N, List.replicate N none)) H1 := by
    rw [zEn_ob (zLt20 hc), hr]
    exact ⟨_, hc, (u_born ty0 hC.2.2.2.2.2.1 hin hKn hkC e1 hty).to hfs⟩
  have h1 := (kk p l e s m args below meth c dC dI ca ρ B A Z H1 locs ls hC hG (by rw [List.length_append]; show _ + (k + 1) = _ + (_ + 1); omega) (hH.push hC.2.2.2.2.2.2.2.2.2.2.1 hq hr z1 o1 hnew) hL)
  rw [List.map_cons, show zV ρ (.ref S.length) = .ref H.size from congrArg Value.ref hr] at h1
  exact h1

theorem r_newa_int {μ : zMi} {k n pc : Nat} {L : List (Option Value)} {st : List Value} {S : zSh} {h : zMm} {Q : Option Value → zSh → zMm → Prop} {x : Int} {N : Nat} (harr : Cond.arrayClass .int ∈ zTb) (hd : decode μ.2.1 pc = .ok (.newarray .int, 2)) (hx : (N : Int) = x) (hN0 : N < 100000) (hlen : S.length < 1000) (hk : k + 1 ≤ μ.2.2.2.2.1.cells) (hn : n + N ≤ μ.2.2.2.2.1.slots) (kk : RR μ (k + 1) (n + N) (pc + 2) L (.ref S.length :: st) (S ++ [(20, N, [])]) (zN h S.length) Q) : RR μ k n pc L (.int (zI x) :: st) S h Q := by
  intro p l e s m args below meth c dC dI ca ρ B A Z H locs ls hC hG hN hH hL
  refine zW_size (fun hsz => ?_)
  have hq : H.size = B + S.length := by have := hH.2.2.2; omega
  have hr : ρ S.length = H.size := by rw [hC.2.2.2.2.2.2.2.2.2.1 _ hlen, hq]
  have hrx : zR x := ⟨by omega, by omega⟩
  have hRA : s.vm.findClass ("[" ++ (newarray.typeOf .int).toString) = some (ca 20) := (hC.2.2.2.2.2.2.2.2.1.2 0 _ rfl).2
  have hcb : componentBytes (newarray.typeOf .int) ≤ 8 := by decide
  refine va_newaK (atype := .int) hC.1 hC.2.1 (hC.2.2.2.2.2.1 _ harr) rfl hd rfl (N := N) (by rw [zI_0, zI_lt hrx ⟨by decide, by decide⟩]; omega) (by rw [zI_clamp hrx]; omega) (Nat.le_trans (Nat.mul_le_mul_left N hcb) (by omega)) hk hn rfl (fun H1 cA e1 z1 o1 hAr hNm => ?_)
  have hca : cA = ca 20 := Option.some.inj (hNm.symm.trans hRA)
  subst hca
  have hnew : va_at (dC, dI) vwCl (ρ S.length, zEn ρ ca (zN h S.length) S.length (20, N, [])) H1 := by
    rw [zEn_20, hr]
    show H1[H.size]? = some (vp_cell _ _)
    rw [e1]
    have e2 := vp_cell_i (ca 20) N (fun (i : Nat) => zI (zN h S.length S.length (i : Int)))
    refine congrArg some (Eq.trans ?_ e2.symm)
    congr 1
    funext j
    show _ = Value.int (zI (zN h S.length S.length (j : Int)))
    rw [zN_at]
    rfl
  have h1 := (kk p l e s m args below meth c dC dI ca ρ B A Z H1 locs ls hC hG (by rw [List.length_append]; show _ + (k + 1) = _ + (_ + 1); omega) (hH.push hC.2.2.2.2.2.2.2.2.2.2.1 hq hr z1 o1 hnew) hL)
  rw [List.map_cons, show zV ρ (.ref S.length) = .ref H.size from congrArg Value.ref hr] at h1
  exact h1

theorem r_newa_long {μ : zMi} {k n pc : Nat} {L : List (Option Value)} {st : List Value} {S : zSh} {h : zMm} {Q : Option Value → zSh → zMm → Prop} {x : Int} {N : Nat} (harr : Cond.arrayClass .long ∈ zTb) (hd : decode μ.2.1 pc = .ok (.newarray .long, 2)) (hx : (N : Int) = x) (hN0 : N < 100000) (hlen : S.length < 1000) (hk : k + 1 ≤ μ.2.2.2.2.1.cells) (hn : n + N ≤ μ.2.2.2.2.1.slots) (kk : RR μ (k + 1) (n + N) (pc + 2) L (.ref S.length :: st) (S ++ [(21, N, [])]) (zN h S.length) Q) : RR μ k n pc L (.int (zI x) :: st) S h Q := by
  intro p l e s m args below meth c dC dI ca ρ B A Z H locs ls hC hG hN hH hL
  refine zW_size (fun hsz => ?_)
  have hq : H.size = B + S.length := by have := hH.2.2.2; omega
  have hr : ρ S.length = H.size := by rw [hC.2.2.2.2.2.2.2.2.2.1 _ hlen, hq]
  have hrx : zR x := ⟨by omega, by omega⟩
  have hRA : s.vm.findClass ("[" ++ (newarray.typeOf .long).toString) = some (ca 21) := (hC.2.2.2.2.2.2.2.2.1.2 1 _ rfl).2
  have hcb : componentBytes (newarray.typeOf .long) ≤ 8 := by decide
  refine va_newaK (atype := .long) hC.1 hC.2.1 (hC.2.2.2.2.2.1 _ harr) rfl hd rfl (N := N) (by rw [zI_0, zI_lt hrx ⟨by decide, by decide⟩]; omega) (by rw [zI_clamp hrx]; omega) (Nat.le_trans (Nat.mul_le_mul_left N hcb) (by omega)) hk hn rfl (fun H1 cA e1 z1 o1 hAr hNm => ?_)
  have hca : cA = ca 21 := Option.some.inj (hNm.symm.trans hRA)
  subst hca
  have hnew : va_at (dC, dI) vwCl (ρ S.length, zEn ρ ca (zN h S.length) S.length (21, N, [])) H1 := by
    rw [zEn_21, hr]
    show H1[H.size]? = some (vp_cell _ _)
    rw [e1]
    have e2 := vp_cell_l (ca 21) N (fun (i : Nat) => zJ (zN h S.length S.length (i : Int)))
    refine congrArg some (Eq.trans ?_ e2.symm)
    congr 1
    funext j
    show _ = Value.long (zJ (zN h S.length S.length (j : Int)))
    rw [zN_at]
    rfl
  have h1 := (kk p l e s m args below meth c dC dI ca ρ B A Z H1 locs ls hC hG (by rw [List.length_append]; show _ + (k + 1) = _ + (_ + 1); omega) (hH.push hC.2.2.2.2.2.2.2.2.2.2.1 hq hr z1 o1 hnew) hL)
  rw [List.map_cons, show zV ρ (.ref S.length) = .ref H.size from congrArg Value.ref hr] at h1
  exact h1

theorem r_newa_byte {μ : zMi} {k n pc : Nat} {L : List (Option Value)} {st : List Value} {S : zSh} {h : zMm} {Q : Option Value → zSh → zMm → Prop} {x : Int} {N : Nat} (harr : Cond.arrayClass .byte ∈ zTb) (hd : decode μ.2.1 pc = .ok (.newarray .byte, 2)) (hx : (N : Int) = x) (hN0 : N < 100000) (hlen : S.length < 1000) (hk : k + 1 ≤ μ.2.2.2.2.1.cells) (hn : n + N ≤ μ.2.2.2.2.1.slots) (kk : RR μ (k + 1) (n + N) (pc + 2) L (.ref S.length :: st) (S ++ [(22, N, [])]) (zN h S.length) Q) : RR μ k n pc L (.int (zI x) :: st) S h Q := by
  intro p l e s m args below meth c dC dI ca ρ B A Z H locs ls hC hG hN hH hL
  refine zW_size (fun hsz => ?_)
  have hq : H.size = B + S.length := by have := hH.2.2.2; omega
  have hr : ρ S.length = H.size := by rw [hC.2.2.2.2.2.2.2.2.2.1 _ hlen, hq]
  have hrx : zR x := ⟨by omega, by omega⟩
  have hRA : s.vm.findClass ("[" ++ (newarray.typeOf .byte).toString) = some (ca 22) := (hC.2.2.2.2.2.2.2.2.1.2 2 _ rfl).2
  have hcb : componentBytes (newarray.typeOf .byte) ≤ 8 := by decide
  refine va_newaK (atype := .byte) hC.1 hC.2.1 (hC.2.2.2.2.2.1 _ harr) rfl hd rfl (N := N) (by rw [zI_0, zI_lt hrx ⟨by decide, by decide⟩]; omega) (by rw [zI_clamp hrx]; omega) (Nat.le_trans (Nat.mul_le_mul_left N hcb) (by omega)) hk hn rfl (fun H1 cA e1 z1 o1 hAr hNm => ?_)
  have hca : cA = ca 22 := Option.some.inj (hNm.symm.trans hRA)
  subst hca
  have hnew : va_at (dC, dI) vwCl (ρ S.length, zEn ρ ca (zN h S.length) S.length (22, N, [])) H1 := by
    rw [zEn_22, hr]
    show H1[H.size]? = some (vp_cell _ _)
    rw [e1]
    have e2 := vp_cell_i (ca 22) N (fun (i : Nat) => zI (zN h S.length S.length (i : Int)))
    refine congrArg some (Eq.trans ?_ e2.symm)
    congr 1
    funext j
    show _ = Value.int (zI (zN h S.length S.length (j : Int)))
    rw [zN_at]
    rfl
  have h1 := (kk p l e s m args below meth c dC dI ca ρ B A Z H1 locs ls hC hG (by rw [List.length_append]; show _ + (k + 1) = _ + (_ + 1); omega) (hH.push hC.2.2.2.2.2.2.2.2.2.2.1 hq hr z1 o1 hnew) hL)
  rw [List.map_cons, show zV ρ (.ref S.length) = .ref H.size from congrArg Value.ref hr] at h1
  exact h1

theorem r_newa_boolean {μ : zMi} {k n pc : Nat} {L : List (Option Value)} {st : List Value} {S : zSh} {h : zMm} {Q : Option Value → zSh → zMm → Prop} {x : Int} {N : Nat} (harr : Cond.arrayClass .boolean ∈ zTb) (hd : decode μ.2.1 pc = .ok (.newarray .boolean, 2)) (hx : (N : Int) = x) (hN0 : N < 100000) (hlen : S.length < 1000) (hk : k + 1 ≤ μ.2.2.2.2.1.cells) (hn : n + N ≤ μ.2.2.2.2.1.slots) (kk : RR μ (k + 1) (n + N) (pc + 2) L (.ref S.length :: st) (S ++ [(23, N, [])]) (zN h S.length) Q) : RR μ k n pc L (.int (zI x) :: st) S h Q := by
  intro p l e s m args below meth c dC dI ca ρ B A Z H locs ls hC hG hN hH hL
  refine zW_size (fun hsz => ?_)
  have hq : H.size = B + S.length := by have := hH.2.2.2; omega
  have hr : ρ S.length = H.size := by rw [hC.2.2.2.2.2.2.2.2.2.1 _ hlen, hq]
  have hrx : zR x := ⟨by omega, by omega⟩
  have hRA : s.vm.findClass ("[" ++ (newarray.typeOf .boolean).toString) = some (ca 23) := (hC.2.2.2.2.2.2.2.2.1.2 3 _ rfl).2
  have hcb : componentBytes (newarray.typeOf .boolean) ≤ 8 := by decide
  refine va_newaK (atype := .boolean) hC.1 hC.2.1 (hC.2.2.2.2.2.1 _ harr) rfl hd rfl (N := N) (by rw [zI_0, zI_lt hrx ⟨by decide, by decide⟩]; omega) (by rw [zI_clamp hrx]; omega) (Nat.le_trans (Nat.mul_le_mul_left N hcb) (by omega)) hk hn rfl (fun H1 cA e1 z1 o1 hAr hNm => ?_)
  have hca : cA = ca 23 := Option.some.inj (hNm.symm.trans hRA)
  subst hca
  have hnew : va_at (dC, dI) vwCl (ρ S.length, zEn ρ ca (zN h S.length) S.length (23, N, [])) H1 := by
    rw [zEn_23, hr]
    show H1[H.size]? = some (vp_cell _ _)
    rw [e1]
    have e2 := vp_cell_i (ca 23) N (fun (i : Nat) => zI (zN h S.length S.length (i : Int)))
    refine congrArg some (Eq.trans ?_ e2.symm)
    congr 1
    funext j
    show _ = Value.int (zI (zN h S.length S.length (j : Int)))
    rw [zN_at]
    rfl
  have h1 := (kk p l e s m args below meth c dC dI ca ρ B A Z H1 locs ls hC hG (by rw [List.length_append]; show _ + (k + 1) = _ + (_ + 1); omega) (hH.push hC.2.2.2.2.2.2.2.2.2.2.1 hq hr z1 o1 hnew) hL)
  rw [List.map_cons, show zV ρ (.ref S.length) = .ref H.size from congrArg Value.ref hr] at h1
  exact h1

theorem r_anewa {μ : zMi} {k n pc : Nat} {L : List (Option Value)} {st : List Value} {S : zSh} {h : zMm} {Q : Option Value → zSh → zMm → Prop} {x : Int} {N idx kd t0 : Nat} {C : String} (hcl : Cond.classLink μ.1.cls idx C ∈ zTb) (hk0 : (kd, t0, C) ∈ [(24, 4, "LawnTrees$Garden"), (25, 5, "LawnTrees$Moves"), (26, 6, "LawnTrees$Sheet")]) (hao : C ∈ zAo) (hd : decode μ.2.1 pc = .ok (.anewarray idx, 3)) (hx : (N : Int) = x) (hN0 : N < 100000) (hlen : S.length < 1000) (hk : k + 1 ≤ μ.2.2.2.2.1.cells) (hn : n + N ≤ μ.2.2.2.2.1.slots) (kk : RR μ (k + 1) (n + N) (pc + 3) L (.ref S.length :: st) (S ++ [(kd, N, List.replicate N none)]) (zN h S.length) Q) : RR μ k n pc L (.int (zI x) :: st) S h Q := by
  intro p l e s m args below meth c dC dI ca ρ B A Z H locs ls hC hG hN hH hL
  refine zW_size (fun hsz => ?_)
  have hq : H.size = B + S.length := by have := hH.2.2.2; omega
  have hr : ρ S.length = H.size := by rw [hC.2.2.2.2.2.2.2.2.2.1 _ hlen, hq]
  have hrx : zR x := ⟨by omega, by omega⟩
  have ht : (zTys ca)[t0]? = some (ca kd, .object C) ∧ 24 ≤ kd := by
    simp only [List.mem_cons, Prod.mk.injEq, List.not_mem_nil, or_false] at hk0
    rcases hk0 with ⟨rfl, rfl, rfl⟩ | ⟨rfl, rfl, rfl⟩ | ⟨rfl, rfl, rfl⟩ <;> exact ⟨rfl, by decide⟩
  obtain ⟨kA0, comp0, -, -, -, hRA⟩ := (hC.2.2.2.2.2.2.2.2.1.2 t0 _ ht.1).2
  have hcl0 : (zI x).toNatClampNeg = N := by rw [zI_clamp hrx]; omega
  refine W.anew hC.1 hC.2.1 hC.2.2.2.2.1 (hC.2.2.2.2.2.1 _ hcl) (va_AO.use (hC.2.2.2.2.2.2.2.2.2.2.2.2.1.2.2 _ hao)) rfl hd rfl (by rw [zI_0, zI_lt hrx ⟨by decide, by decide⟩]; omega) (by rw [hcl0]; omega) hk (by rw [hcl0]; exact hn) (fun cA kA comp f1 f2 f3 f4 => ?_)
  have hca : cA = ca kd := Option.some.inj (f1.symm.trans hRA)
  subst hca
  rw [hcl0]
  generalize hH1 : H.push ({ cls := ca kd, slots := Array.replicate N .null, vm := .none } : Cell) = H1
  have z1 : H1.size = H.size + 1 := by rw [← hH1, Array.size_push]
  have e1 : H1[H.size]? = some (arrV (ca kd) N (fun _ => .null)) := by rw [← hH1, Array.getElem?_push_size, ← arrV_new]
  have o1 : ∀ q : Nat, q < H.size → H1[q]? = H[q]? := fun q hq => by rw [← hH1, Array.getElem?_push, if_neg (Nat.ne_of_lt hq)]
  have hnew : va_at (dC, dI) vwCl (ρ S.length, zEn ρ ca (zN h S.length) S.length (kd, N, List.replicate N none)) H1 := by
    rw [zEn_rf ht.2, hr]
    show H1[H.size]? = some (vp_cell _ _)
    rw [e1]
    have e2 := vp_cell_q (ca kd) N (fun (i : Nat) => ((List.replicate N (none : Option Nat)).getD i none).map ρ)
    refine congrArg some (Eq.trans ?_ e2.symm)
    congr 1
    funext j
    have e : (List.replicate N (none : Option Nat)).getD j none = none := by
      rw [List.getD_eq_getElem?_getD, List.getElem?_replicate]
      split <;> rfl
    show _ = va_rf (((List.replicate N (none : Option Nat)).getD j none).map ρ)
    rw [e]
    rfl
  have h1 := (kk p l e s m args below meth c dC dI ca ρ B A Z H1 locs ls hC hG (by rw [List.length_append]; show _ + (k + 1) = _ + (_ + 1); omega) (hH.push hC.2.2.2.2.2.2.2.2.2.2.1 hq hr z1 o1 hnew) hL)
  rw [List.map_cons, show zV ρ (.ref S.length) = .ref H.size from congrArg Value.ref hr] at h1
  exact h1
theorem r_objInit {μ : zMi} {k n pc : Nat} {L : List (Option Value)} {st : List Value} {S : zSh} {h : zMm} {Q : Option Value → zSh → zMm → Prop} {a idx : Nat} (hl : Cond.methodLink μ.1.cls idx Lib.objectInit ∈ zTb) (hi : Cond.instanceMethod Lib.objectInit ∈ zTb) (hc : Cond.code Lib.objectInit ⟨#[0xb1]⟩ 1 none ∈ zTb) (hd : decode μ.2.1 pc = .ok (.invokespecial idx, 3)) (hf : 1 ≤ μ.2.2.2.2.1.frames) (hlo : (st.map fun v => v.category).sum + 12 ≤ μ.2.2.2.2.1.locals) (kk : RR μ k n (pc + 3) L st S h Q) : RR μ k n pc L (.ref a :: st) S h Q := by
  intro p l e s m args below meth c dC dI ca ρ B A Z H locs ls hC hG hN hH hL
  have hcat : ((st.map (zV ρ)).map fun v => v.category).sum = (st.map fun v => v.category).sum := by
    rw [List.map_map]
    congr 1
    exact List.map_congr_left (fun v _ => zV_cat ρ v)
  refine W.objInit hC.1 hC.2.1 hC.2.2.2.2.1 (hC.2.2.2.2.2.1 _ hl) (hC.2.2.2.2.2.1 _ hi) (hC.2.2.2.2.2.1 _ hc) rfl (by rw [hC.2.2.2.1]; exact hL.1) rfl hd hf ?_ (kk p l e s m args below meth c dC dI ca ρ B A Z H locs ls hC hG hN hH hL)
  show 2 * 0 + _ + 12 ≤ _
  rw [hcat]
  omega
theorem r_getsN {μ : zMi} {k n pc : Nat} {L : List (Option Value)} {st : List Value} {S : zSh} {h : zMm} {Q : Option Value → zSh → zMm → Prop} {idx : Nat} {q : String × Nat × List Int} (hq : q ∈ zSt) (hl : Cond.fieldLinkNest μ.1.cls idx "LawnTrees" q.1 "[I" "LawnTrees" ∈ zNb) (hd : decode μ.2.1 pc = .ok (.getstatic idx, 3)) (kk : RR μ k n (pc + 3) L (.ref q.2.1 :: st) S h Q) : RR μ k n pc L st S h Q := by
  intro p l e s m args below meth c dC dI ca ρ B A Z H locs ls hC hG hN hH hL
  exact va_getsN hC.1 hC.2.1 (hC.2.2.2.2.2.2.2.2.2.2.2.1.2.1 q hq).1 hH.2.2.1 hC.2.2.2.2.1 (va_Nw.use rfl (hC.2.2.2.2.2.2.2.2.2.2.2.2.1.2.1 _ hl)) (fun _ z => z) hd (kk p l e s m args below meth c dC dI ca ρ B A Z H locs ls hC hG hN hH hL)
theorem r_stald {μ : zMi} {k n pc : Nat} {L : List (Option Value)} {st : List Value} {S : zSh} {h : zMm} {Q : Option Value → zSh → zMm → Prop} {q : String × Nat × List Int} {i x : Int} (hq : q ∈ zSt) (hd : decode μ.2.1 pc = .ok (.iaload, 1)) (hi : 0 ≤ i ∧ i < 8) (hx : q.2.2.getD i.toNat 0 = x) (kk : RR μ k n (pc + 1) L (.int (zI x) :: st) S h Q) : RR μ k n pc L (.int (zI i) :: .ref q.2.1 :: st) S h Q := by
  intro p l e s m args below meth c dC dI ca ρ B A Z H locs ls hC hG hN hH hL
  refine va_ti hC.1 hC.2.1 (hC.2.2.2.2.2.2.2.2.2.2.2.1.2.1 q hq).2 hH.2.2.1 (i := zI i) (zI_in (by decide) hi.1 hi.2) (by rw [zI_clamp ⟨by omega, by omega⟩, hx]; rfl) hd (kk p l e s m args below meth c dC dI ca ρ B A Z H locs ls hC hG hN hH hL)
theorem r_getsCS {μ : zMi} {k n pc : Nat} {L : List (Option Value)} {st : List Value} {S : zSh} {h : zMm} {Q : Option Value → zSh → zMm → Prop} {idx : Nat} (hl : Cond.fieldLink μ.1.cls idx "java/lang/String" "COMPACT_STRINGS" "Z" ∈ zTb) (hd : decode μ.2.1 pc = .ok (.getstatic idx, 3)) (kk : RR μ k n (pc + 3) L (.int (zI 1) :: st) S h Q) : RR μ k n pc L st S h Q := by
  intro p l e s m args below meth c dC dI ca ρ B A Z H locs ls hC hG hN hH hL
  exact va_gets hC.1 hC.2.1 hC.2.2.2.2.2.2.2.2.2.2.2.1.2.2.1 hH.2.2.1 hC.2.2.2.2.1 (hC.2.2.2.2.2.1 _ hl) (fun _ z => z) hd (kk p l e s m args below meth c dC dI ca ρ B A Z H locs ls hC hG hN hH hL)
theorem r_getsF {μ : zMi} {k n pc : Nat} {L : List (Option Value)} {st : List Value} {S : zSh} {h : zMm} {Q : Option Value → zSh → zMm → Prop} {idx : Nat} (hl : Cond.fieldLink μ.1.cls idx "jdk/internal/util/Preconditions" "SIOOBE_FORMATTER" "Ljava/util/function/BiFunction;" ∈ zTb) (hd : decode μ.2.1 pc = .ok (.getstatic idx, 3)) (kk : RR μ k n (pc + 3) L (.null :: st) S h Q) (kk2 : RR μ k n (pc + 3) L (.ref 1400 :: st) S h Q) : RR μ k n pc L st S h Q := by
  intro p l e s m args below meth c dC dI ca ρ B A Z H locs ls hC hG hN hH hL
  rcases hC.2.2.2.2.2.2.2.2.2.2.2.1.2.2.2 with hz | hz
  · exact va_gets hC.1 hC.2.1 hz hH.2.2.1 hC.2.2.2.2.1 (hC.2.2.2.2.2.1 _ hl) (fun _ z => z) hd (kk p l e s m args below meth c dC dI ca ρ B A Z H locs ls hC hG hN hH hL)
  · exact va_gets hC.1 hC.2.1 hz hH.2.2.1 hC.2.2.2.2.1 (hC.2.2.2.2.2.1 _ hl) (fun _ z => z) hd (kk2 p l e s m args below meth c dC dI ca ρ B A Z H locs ls hC hG hN hH hL)
theorem r_sval {μ : zMi} {k n pc : Nat} {L : List (Option Value)} {st : List Value} {S : zSh} {h : zMm} {Q : Option Value → zSh → zMm → Prop} {idx j : Nat} (hj : j < 11) (hl : Cond.fieldLink μ.1.cls idx "java/lang/String" "value" "[B" ∈ zTb) (hd : decode μ.2.1 pc = .ok (.getfield idx, 3)) (kk : RR μ k n (pc + 3) L (.ref (1100 + j) :: st) S h Q) : RR μ k n pc L (.ref (1000 + j) :: st) S h Q := by
  intro p l e s m args below meth c dC dI ca ρ B A Z H locs ls hC hG hN hH hL
  exact vk_getf hC.1 hC.2.1 (hC.2.2.2.2.2.2.2.2.2.2.2.1.1.1 j hj).2.2.1 hH.2.2.1 hC.2.2.2.2.1 (hC.2.2.2.2.2.1 _ hl) (fun _ z => z) hd (kk p l e s m args below meth c dC dI ca ρ B A Z H locs ls hC hG hN hH hL)
theorem r_scod {μ : zMi} {k n pc : Nat} {L : List (Option Value)} {st : List Value} {S : zSh} {h : zMm} {Q : Option Value → zSh → zMm → Prop} {idx j : Nat} (hj : j < 11) (hl : Cond.fieldLink μ.1.cls idx "java/lang/String" "coder" "B" ∈ zTb) (hd : decode μ.2.1 pc = .ok (.getfield idx, 3)) (kk : RR μ k n (pc + 3) L (.int (zI 0) :: st) S h Q) : RR μ k n pc L (.ref (1000 + j) :: st) S h Q := by
  intro p l e s m args below meth c dC dI ca ρ B A Z H locs ls hC hG hN hH hL
  exact vk_getf hC.1 hC.2.1 (hC.2.2.2.2.2.2.2.2.2.2.2.1.1.1 j hj).2.1 hH.2.2.1 hC.2.2.2.2.1 (hC.2.2.2.2.2.1 _ hl) (fun _ z => z) hd (kk p l e s m args below meth c dC dI ca ρ B A Z H locs ls hC hG hN hH hL)
theorem r_slen {μ : zMi} {k n pc : Nat} {L : List (Option Value)} {st : List Value} {S : zSh} {h : zMm} {Q : Option Value → zSh → zMm → Prop} {j : Nat} {x : Int} (hj : j < 11) (hd : decode μ.2.1 pc = .ok (.arraylength, 1)) (hx : ((zLen.getD j 0 : Nat) : Int) = x) (kk : RR μ k n (pc + 1) L (.int (zI x) :: st) S h Q) : RR μ k n pc L (.ref (1100 + j) :: st) S h Q := by
  intro p l e s m args below meth c dC dI ca ρ B A Z H locs ls hC hG hN hH hL
  exact va_tlen hC.1 hC.2.1 (hC.2.2.2.2.2.2.2.2.2.2.2.1.1.1 j hj).2.2.2 hH.2.2.1 (by rw [← hx]; rfl) hd (kk p l e s m args below meth c dC dI ca ρ B A Z H locs ls hC hG hN hH hL)
theorem r_sbald {μ : zMi} {k n pc : Nat} {L : List (Option Value)} {st : List Value} {S : zSh} {h : zMm} {Q : Option Value → zSh → zMm → Prop} {j : Nat} {i x : Int} (hj : j < 11) (hd : decode μ.2.1 pc = .ok (.baload, 1)) (hi : 0 ≤ i ∧ i < ((zLen.getD j 0 : Nat) : Int) ∧ zLen.getD j 0 < 100) (hx : (zByt.getD j []).getD i.toNat 0 = zI x) (kk : RR μ k n (pc + 1) L (.int (zI x) :: st) S h Q) : RR μ k n pc L (.int (zI i) :: .ref (1100 + j) :: st) S h Q := by
  intro p l e s m args below meth c dC dI ca ρ B A Z H locs ls hC hG hN hH hL
  refine va_tb hC.1 hC.2.1 (hC.2.2.2.2.2.2.2.2.2.2.2.1.1.1 j hj).2.2.2 hH.2.2.1 (i := zI i) (zI_in (by omega) hi.1 hi.2.1) (by rw [zI_clamp ⟨by omega, by omega⟩, hx]; rfl) hd (kk p l e s m args below meth c dC dI ca ρ B A Z H locs ls hC hG hN hH hL)
theorem r_xald {μ : zMi} {k n pc : Nat} {L : List (Option Value)} {st : List Value} {S : zSh} {h : zMm} {Q : Option Value → zSh → zMm → Prop} {ξ : Nat × (Nat → Int)} {i x : Int} (hX : μ.2.2.2.2.2 = some ξ) (hd : decode μ.2.1 pc = .ok (.iaload, 1)) (hi : 0 ≤ i ∧ i < (ξ.1 : Int) ∧ ξ.1 < 2147483648) (hx : ξ.2 i.toNat = x) (kk : RR μ k n (pc + 1) L (.int (zI x) :: st) S h Q) : RR μ k n pc L (.int (zI i) :: .ref 1300 :: st) S h Q := by
  intro p l e s m args below meth c dC dI ca ρ B A Z H locs ls hC hG hN hH hL
  have hZ := hC.2.2.2.2.2.2.2.2.2.2.2.2.2
  unfold zX at hZ
  rw [hX] at hZ
  exact va_ti hC.1 hC.2.1 hZ hH.2.2.1 (i := zI i) (zHi hi).1 (by rw [(zHi hi).2, hx]; rfl) hd (kk p l e s m args below meth c dC dI ca ρ B A Z H locs ls hC hG hN hH hL)
theorem r_xlen {μ : zMi} {k n pc : Nat} {L : List (Option Value)} {st : List Value} {S : zSh} {h : zMm} {Q : Option Value → zSh → zMm → Prop} {ξ : Nat × (Nat → Int)} {x : Int} (hX : μ.2.2.2.2.2 = some ξ) (hd : decode μ.2.1 pc = .ok (.arraylength, 1)) (hx : (ξ.1 : Int) = x) (kk : RR μ k n (pc + 1) L (.int (zI x) :: st) S h Q) : RR μ k n pc L (.ref 1300 :: st) S h Q := by
  intro p l e s m args below meth c dC dI ca ρ B A Z H locs ls hC hG hN hH hL
  have hZ := hC.2.2.2.2.2.2.2.2.2.2.2.2.2
  unfold zX at hZ
  rw [hX] at hZ
  exact va_tlen hC.1 hC.2.1 hZ hH.2.2.1 (by rw [← hx]; rfl) hd (kk p l e s m args below meth c dC dI ca ρ B A Z H locs ls hC hG hN hH hL)
/-- the first N of one row into another -/
def zCp (h : zMm) (a0 a1 : Nat) (N : Int) : zMm := fun a b => if a = a1 ∧ 0 ≤ b ∧ b < N then h a0 b else h a b
theorem zCp_off {h : zMm} {a0 a1 : Nat} {N : Int} : ∀ a, a ≠ a1 → zCp h a0 a1 N a = h a := by
  intro a ha
  funext b
  unfold zCp
  rw [if_neg (fun z => ha z.1)]

theorem r_copy_int {μ : zMi} {k n pc : Nat} {L : List (Option Value)} {st : List Value} {S : zSh} {h : zMm} {Q : Option Value → zSh → zMm → Prop} {a0 a1 idx N0 N1 : Nat} {r0 r1 : List (Option Nat)} {x : Int} (hl : Cond.methodLink μ.1.cls idx arraycopyName ∈ zTb) (hw1 : Cond.native arraycopyName ∈ zTb) (hw2 : Cond.static arraycopyName ∈ zTb) (hw3 : Cond.initialized "java/lang/System" ∈ zTb) (hd : decode μ.2.1 pc = .ok (.invokestatic idx, 3)) (h0 : S[a0]? = some (20, N0, r0)) (h1 : S[a1]? = some (20, N1, r1)) (hx : 0 ≤ x ∧ x ≤ (N0 : Int) ∧ x ≤ (N1 : Int) ∧ N0 < 100000) (hf : 1 ≤ μ.2.2.2.2.1.frames) (hlo : (st.map fun v => v.category).sum + (nativeFrameWords "java/lang/System" "arraycopy" 5 + 11) ≤ μ.2.2.2.2.1.locals) (kk : RR μ k n (pc + 3) L st S (zCp h a0 a1 x) Q) : RR μ k n pc L (.int (zI x) :: .int (zI 0) :: .ref a1 :: .int (zI 0) :: .ref a0 :: st) S h Q := by
  intro p l e s m args below meth c dC dI ca ρ B A Z H locs ls hC hG hN hH hL
  have hcat : ((st.map (zV ρ)).map fun v => v.category).sum = (st.map fun v => v.category).sum := by
    rw [List.map_map]
    congr 1
    exact List.map_congr_left (fun v _ => zV_cat ρ v)
  have e0 := zWl_get (ρ := ρ) (ca := ca) (h := h) h0
  have e1 := zWl_get (ρ := ρ) (ca := ca) (h := h) h1
  rw [zEn_20] at e0 e1
  have hrx : zR x := ⟨by omega, by omega⟩
  have hcx : (zI x).toNatClampNeg = x.toNat := zI_clamp hrx
  have hc0 : (zI 0).toNatClampNeg = 0 := rfl
  refine va_copyi (D := (dC, dI)) hC.1 hC.2.1 (by rw [hC.2.2.2.1]; exact hL.1.symm) hC.2.2.2.2.1 (hC.2.2.2.2.2.1 _ hl) (hC.2.2.2.2.2.1 _ hw1) (hC.2.2.2.2.2.1 _ hw2) (hC.2.2.2.2.2.1 _ hw3) hC.2.2.2.2.2.2.2.2.1 hH.1 hH.2.1 (zS_self hH.2.2.1) a0 a1 0 0 e0 e1 rfl rfl rfl (by decide) (by decide) (by rw [zI_0, zI_lt hrx ⟨by decide, by decide⟩]; omega) (by rw [hcx, hc0]; omega) (by rw [hcx, hc0]; omega) (fun _ _ => rfl) hf (by rw [hcat]; exact hlo) hd (fun H1 locs1 hP hD hS => ?_)
  rw [hcx, hc0] at hP hD
  have he2 : Sum.inl (ca 20, N1, Sum.inl (va_cpy (fun (i : Nat) => zI (h a0 (i : Int))) (fun (i : Nat) => zI (h a1 (i : Int))) 0 0 x.toNat)) = zEn ρ ca (zCp h a0 a1 x) a1 (20, N1, r1) := by
    rw [zEn_20]
    congr 4
    funext j
    unfold va_cpy zCp
    by_cases hj : j < x.toNat
    · rw [if_pos ⟨Nat.zero_le _, by omega⟩, if_pos ⟨rfl, by omega, by omega⟩, Nat.zero_add, Nat.sub_zero]
    · rw [if_neg (fun w => hj (by omega)), if_neg (fun w => hj (by omega))]
  exact (kk p l e s m args below meth c dC dI ca ρ B A Z H1 locs1 ls hC hG hN (hH.put1 h1 zCp_off he2 hP hD hS) hL)

theorem r_copy_long {μ : zMi} {k n pc : Nat} {L : List (Option Value)} {st : List Value} {S : zSh} {h : zMm} {Q : Option Value → zSh → zMm → Prop} {a0 a1 idx N0 N1 : Nat} {r0 r1 : List (Option Nat)} {x : Int} (hl : Cond.methodLink μ.1.cls idx arraycopyName ∈ zTb) (hw1 : Cond.native arraycopyName ∈ zTb) (hw2 : Cond.static arraycopyName ∈ zTb) (hw3 : Cond.initialized "java/lang/System" ∈ zTb) (hd : decode μ.2.1 pc = .ok (.invokestatic idx, 3)) (h0 : S[a0]? = some (21, N0, r0)) (h1 : S[a1]? = some (21, N1, r1)) (hx : 0 ≤ x ∧ x ≤ (N0 : Int) ∧ x ≤ (N1 : Int) ∧ N0 < 100000) (hf : 1 ≤ μ.2.2.2.2.1.frames) (hlo : (st.map fun v => v.category).sum + (nativeFrameWords "java/lang/System" "arraycopy" 5 + 11) ≤ μ.2.2.2.2.1.locals) (kk : RR μ k n (pc + 3) L st S (zCp h a0 a1 x) Q) : RR μ k n pc L (.int (zI x) :: .int (zI 0) :: .ref a1 :: .int (zI 0) :: .ref a0 :: st) S h Q := by
  intro p l e s m args below meth c dC dI ca ρ B A Z H locs ls hC hG hN hH hL
  have hcat : ((st.map (zV ρ)).map fun v => v.category).sum = (st.map fun v => v.category).sum := by
    rw [List.map_map]
    congr 1
    exact List.map_congr_left (fun v _ => zV_cat ρ v)
  have e0 := zWl_get (ρ := ρ) (ca := ca) (h := h) h0
  have e1 := zWl_get (ρ := ρ) (ca := ca) (h := h) h1
  rw [zEn_21] at e0 e1
  have hrx : zR x := ⟨by omega, by omega⟩
  have hcx : (zI x).toNatClampNeg = x.toNat := zI_clamp hrx
  have hc0 : (zI 0).toNatClampNeg = 0 := rfl
  refine va_copyl (D := (dC, dI)) hC.1 hC.2.1 (by rw [hC.2.2.2.1]; exact hL.1.symm) hC.2.2.2.2.1 (hC.2.2.2.2.2.1 _ hl) (hC.2.2.2.2.2.1 _ hw1) (hC.2.2.2.2.2.1 _ hw2) (hC.2.2.2.2.2.1 _ hw3) hC.2.2.2.2.2.2.2.2.1 hH.1 hH.2.1 (zS_self hH.2.2.1) a0 a1 1 1 e0 e1 rfl rfl rfl (by decide) (by decide) (by rw [zI_0, zI_lt hrx ⟨by decide, by decide⟩]; omega) (by rw [hcx, hc0]; omega) (by rw [hcx, hc0]; omega) (fun _ _ => rfl) hf (by rw [hcat]; exact hlo) hd (fun H1 locs1 hP hD hS => ?_)
  rw [hcx, hc0] at hP hD
  have he2 : Sum.inl (ca 21, N1, Sum.inr (Sum.inl (va_cpy (fun (i : Nat) => zJ (h a0 (i : Int))) (fun (i : Nat) => zJ (h a1 (i : Int))) 0 0 x.toNat))) = zEn ρ ca (zCp h a0 a1 x) a1 (21, N1, r1) := by
    rw [zEn_21]
    congr 5
    funext j
    unfold va_cpy zCp
    by_cases hj : j < x.toNat
    · rw [if_pos ⟨Nat.zero_le _, by omega⟩, if_pos ⟨rfl, by omega, by omega⟩, Nat.zero_add, Nat.sub_zero]
    · rw [if_neg (fun w => hj (by omega)), if_neg (fun w => hj (by omega))]
  exact (kk p l e s m args below meth c dC dI ca ρ B A Z H1 locs1 ls hC hG hN (hH.put1 h1 zCp_off he2 hP hD hS) hL)

def zCs (h : zMm) (l : List Int) (a1 : Nat) : zMm := fun a b => if a = a1 ∧ 0 ≤ b ∧ b < 8 then l.getD b.toNat 0 else h a b
theorem zCs_off {h : zMm} {l : List Int} {a1 : Nat} : ∀ a, a ≠ a1 → zCs h l a1 a = h a := by
  intro a ha
  funext b
  unfold zCs
  rw [if_neg (fun z => ha z.1)]
theorem r_copyS {μ : zMi} {k n pc : Nat} {L : List (Option Value)} {st : List Value} {S : zSh} {h : zMm} {Q : Option Value → zSh → zMm → Prop} {q : String × Nat × List Int} {a1 idx N1 : Nat} {r1 : List (Option Nat)} (hq : q ∈ zSt) (hl : Cond.methodLink μ.1.cls idx arraycopyName ∈ zTb) (hw1 : Cond.native arraycopyName ∈ zTb) (hw2 : Cond.static arraycopyName ∈ zTb) (hw3 : Cond.initialized "java/lang/System" ∈ zTb) (hd : decode μ.2.1 pc = .ok (.invokestatic idx, 3)) (h1 : S[a1]? = some (20, N1, r1)) (hx : 8 ≤ N1) (hf : 1 ≤ μ.2.2.2.2.1.frames) (hlo : (st.map fun v => v.category).sum + (nativeFrameWords "java/lang/System" "arraycopy" 5 + 11) ≤ μ.2.2.2.2.1.locals) (kk : RR μ k n (pc + 3) L st S (zCs h q.2.2 a1) Q) : RR μ k n pc L (.int (zI 8) :: .int (zI 0) :: .ref a1 :: .int (zI 0) :: .ref q.2.1 :: st) S h Q := by
  intro p l e s m args below meth c dC dI ca ρ B A Z H locs ls hC hG hN hH hL
  have hcat : ((st.map (zV ρ)).map fun v => v.category).sum = (st.map fun v => v.category).sum := by
    rw [List.map_map]
    congr 1
    exact List.map_congr_left (fun v _ => zV_cat ρ v)
  have e1 := zWl_get (ρ := ρ) (ca := ca) (h := h) h1
  rw [zEn_20] at e1
  have hS := zS_self hH.2.2.1
  intro T hT X
  obtain ⟨scr, hs1, hs2, hs3, hs4, -, hs5, hs7⟩ := (hC.2.2.2.2.2.2.2.2.2.2.2.1.2.1 q hq).2
  have hc0 : H[ρ q.2.1]? = some scr := by rw [hH.2.2.1.2.1 _ (Array.getElem?_eq_some_iff.mp hs1).1 hs7]; exact hs1
  have hc1 : H[ρ a1]? = some (vp_cell (ca 20) (N1, .inl (fun (i : Nat) => zI (h a1 (i : Int))))) := hH.1 a1 _ e1
  obtain ⟨hs6, k0, hk0, cm0, hkk0⟩ := hs2
  obtain ⟨-, k1, hk1, cm1, hkk1⟩ := (hC.2.2.2.2.2.2.2.2.1.2 0 _ rfl).1 N1 (fun j => .int (zI (h a1 (j : Int))))
  obtain ⟨vm', X', step⟩ := X.arraycopy hC.1 hC.2.2.2.2.1 (hC.2.2.2.2.2.1 _ hl) (hC.2.2.2.2.2.1 _ hw1) (hC.2.2.2.2.2.1 _ hw2) (hC.2.2.2.2.2.1 _ hw3) (src := ρ q.2.1) (dst := ρ a1) (cs := scr) (cd := vp_cell (ca 20) (N1, .inl (fun (i : Nat) => zI (h a1 (i : Int))))) (srcPos := 0) (destPos := 0) (n := 8) (by rw [hT]; exact hc0) (by rw [hT]; exact hc1)
    hs6 (fun _ z => by cases z) hs3 (fun z => by cases z) hk0 hk1 hkk0 hkk1 (by simp [refKind]) (by decide) (by decide) (by decide)
    (by show ¬ ((0 : Int) + 8 > (scr.slots.size : Int)); omega)
    (by show ¬ ((0 : Int) + 8 > ((arrV (ca 20) N1 (fun j => .int (zI (h a1 (j : Int))))).slots.size : Int)); rw [arrV_size]; omega)
    (fun vm₁ _ i hi => by
      have hi8 : i < 8 := hi
      have e : scr.slots.getD (0 + i) .null = .int (zI (q.2.2.getD (0 + i) 0)) := by
        rw [Array.getD_eq_getD_getElem?, hs5 _ (by omega)]
        rfl
      refine ⟨?_, ?_⟩
      · show fits .int (scr.slots.getD (0 + i) .null) = true
        rw [e]
        rfl
      · show _root_.id _
        exact (by first | exact (show _ from by rw [show ((0 : Int32).toNatClampNeg + i) = 0 + i from rfl, e]; exact trivial)))
    (g := F0 m pc ls (.int 8 :: .int 0 :: .ref (ρ a1) :: .int 0 :: .ref (ρ q.2.1) :: st.map (zV ρ))) rfl (by rw [hC.2.2.2.1]; exact hL.1) (rest := st.map (zV ρ)) rfl (by rw [hC.2.1]; exact hd) hf (by show 2 * 0 + _ + _ ≤ _; rw [hcat]; omega)
  have e2 : copied scr (vp_cell (ca 20) (N1, .inl (fun (i : Nat) => zI (h a1 (i : Int))))) 0 0 8 = vp_cell (ca 20) (N1, .inl (fun (i : Nat) => zI (zCs h q.2.2 a1 a1 (i : Int)))) := by
    refine (va_copiedX (n0 := 8) (sp := 0) (dp := 0) (n := 8) (fun z => Value.int z) scr (ca 20) (fun j => zI (q.2.2.getD j 0)) (fun (j : Nat) => zI (h a1 (j : Int))) hs5 (by decide)).trans ?_
    rw [vp_cell_i]
    congr 1
    funext j
    unfold va_cpy zCs
    by_cases hj : j < 8
    · rw [if_pos ⟨Nat.zero_le _, by omega⟩, if_pos ⟨rfl, by omega, by omega⟩, Nat.zero_add, Nat.sub_zero, Int.toNat_natCast]
    · rw [if_neg (fun w => hj (by omega)), if_neg (fun w => hj (by omega))]
  rw [e2] at X' step
  have hl2 : ρ a1 < H.size := (Array.getElem?_eq_some_iff.mp hc1).1
  generalize hce : vp_cell (ca 20) (N1, .inl (fun (i : Nat) => zI (zCs h q.2.2 a1 a1 (i : Int)))) = ce at X' step
  have hheap : ((T.setVm vm').setCell (ρ a1) ce).heap = H.setIfInBounds (ρ a1) ce := by rw [← hT]; rfl
  have oq : ∀ z : Nat, z ≠ ρ a1 → (H.setIfInBounds (ρ a1) ce)[z]? = H[z]? := fun z hz => by simp [Array.getElem?_setIfInBounds, Ne.symm hz]
  have hat : va_at (dC, dI) vwCl (ρ a1, zEn ρ ca (zCs h q.2.2 a1) a1 (20, N1, r1)) (H.setIfInBounds (ρ a1) ce) := by
    rw [zEn_20]
    show (H.setIfInBounds (ρ a1) ce)[ρ a1]? = some (vp_cell _ _)
    rw [hce]
    simp [Array.getElem?_setIfInBounds, hl2]
  have hP2 := hH.1.set hH.2.1 e1 hat oq
  have hD2 := hH.2.1.set (e := zEn ρ ca (zCs h q.2.2 a1) a1 (20, N1, r1)) e1
  obtain ⟨t, g1, g2⟩ := kk p l e s m args below meth c dC dI ca ρ B A Z (H.setIfInBounds (ρ a1) ce) _ ls hC hG hN (hH.put1 h1 zCs_off rfl hP2 hD2 ⟨by simp, fun z z1 z2 => oq z (fun w => z2 (by rw [w]; exact hH.2.1.2 a1 _ e1)), fun z hz => by
      rcases List.mem_append.mp hz with w | w
      · exact hH.2.2.1.2.2 z w
      · obtain ⟨y, -, hy⟩ := List.mem_map.mp w
        rw [← hy]
        exact hH.2.1.2 a1 _ e1⟩) hL _ hheap X'
  exact ⟨t, step t g1, g2⟩
theorem r_lushr {μ : zMi} {k n pc : Nat} {L : List (Option Value)} {st : List Value} {S : zSh} {h : zMm} {Q : Option Value → zSh → zMm → Prop} {x y : Int} (hd : decode μ.2.1 pc = .ok (.lushr, 1)) (kk : RR μ k n (pc + 1) L (.long (zJ (lUr x y)) :: st) S h Q) : RR μ k n pc L (.int (zI y) :: .long (zJ x) :: st) S h Q := by
  intro p l e s m args below meth c dC dI ca ρ B A Z H locs ls hC hG hN hH hL
  refine lv_lushr hC.1 hC.2.1 hd rfl ?_
  have h1 := (kk p l e s m args below meth c dC dI ca ρ B A Z H locs ls hC hG hN hH hL)
  unfold lUr at h1
  rw [zJ_of] at h1
  exact h1

theorem r_i2c {μ : zMi} {k n pc : Nat} {L : List (Option Value)} {st : List Value} {S : zSh} {h : zMm} {Q : Option Value → zSh → zMm → Prop} {x : Int} (hd : decode μ.2.1 pc = .ok (.i2c, 1)) (hx : 0 ≤ x ∧ x < 65536) (kk : RR μ k n (pc + 1) L (.int (zI x) :: st) S h Q) : RR μ k n pc L (.int (zI x) :: st) S h Q := by
  intro p l e s m args below meth c dC dI ca ρ B A Z H locs ls hC hG hN hH hL
  refine lv_i2c (v := zI x) hC.1 hC.2.1 hd ?_ (kk p l e s m args below meth c dC dI ca ρ B A Z H locs ls hC hG hN hH hL)
  obtain ⟨j, rfl⟩ := Int.eq_ofNat_of_zero_le hx.1
  have hj : j < 65536 := by omega
  exact zI_C j hj
