/-- what the tables say of a method -/
def zOK (μ : zMi) (N : Nat) : Prop := plainName μ.1.cls = true ∧ Cond.code μ.1 μ.2.1 μ.2.2.1 μ.2.2.2.1 ∈ zTb ∧ Cond.initialized μ.1.cls ∈ zTb ∧ (μ.1.cls ≠ "java/lang/invoke/MethodHandle" ∧ μ.1.cls ≠ "java/lang/invoke/VarHandle" ∧ (parseMethodDescriptor μ.1.desc).map (fun d => d.parameters.length) = some N) ∧ μ.2.2.2.2.2 = none
/-- a callee's room in a caller's -/
def zRm (μ μ2 : zMi) : Prop := μ2.2.2.2.2.1.frames + 1 ≤ μ.2.2.2.2.1.frames ∧ 8 + (μ2.2.2.1 + 11) + μ2.2.2.2.2.1.locals ≤ μ.2.2.2.2.1.locals
theorem zWs_hts {μ : zMi} {args : Array Value} {s : State} (h : ∀ w ∈ zWs μ, w.before args s = true) : ∀ w ∈ zTb, w.before args s = true := fun w hw => h w (List.mem_cons_of_mem _ hw)
theorem zWs_good {μ : zMi} {N : Nat} (hok : zOK μ N) : GoodIn zTb (zWs μ) := by
  have hm : ∀ w ∈ zWs μ, w ∈ zTb := fun w hw => (List.mem_cons.mp hw).elim (fun e => by rw [e]; exact hok.2.1) id
  exact fun w hw => ⟨hm w hw, good_of_word (List.mem_filter.mp (hm w hw)).2⟩
def zPc (μ : zMi) (as : List Value) (S : zSh) (h : zMm) (dC : Nat → ClassId) (dI : Nat → Nat → Nat) (ca : Nat → ClassId) (ρ : Nat → Nat) (B : Nat) : Array Value → State → Prop := fun v U =>
  v = (as.map (zV ρ)).toArray ∧ U.heap.size = B + S.length ∧ va_P (dC, dI) vwCl (zWl ρ ca S h) U.heap ∧ va_K (dC, dI) vwCl (zTys ca) U ∧ va_D (fun _ => True) (zWl ρ ca S h) ∧ zKh ρ (va_A (zWl ρ ca S h) (B + S.length)) U U.heap ∧ zKs ρ U
def zQc (μ : zMi) (Q : Option Value → zSh → zMm → Prop) (dC : Nat → ClassId) (dI : Nat → Nat → Nat) (ca : Nat → ClassId) (ρ : Nat → Nat) (B : Nat) (k0 : Nat) (A : Nat → Prop) : Array Value → State → Outcome → State → Prop := fun _ st oc t =>
  (∃ (r : Option Value) (S' : zSh) (h' : zMm), oc = .returned (r.map (zV ρ)) ∧ Q r S' h' ∧ va_P (dC, dI) vwCl (zWl ρ ca S' h') t.heap ∧ va_D A (zWl ρ ca S' h') ∧ B + S'.length ≤ t.heap.size ∧ k0 + μ.2.2.2.2.1.cells = S'.length) ∧ va_F A st t
theorem zPc_blind (μ : zMi) (as : List Value) (S : zSh) (h : zMm) (dC : Nat → ClassId) (dI : Nat → Nat → Nat) (ca : Nat → ClassId) (ρ : Nat → Nat) (B : Nat) : FrameBlind (zPc μ as S h dC dI ca ρ B) := by
  intro a U g mk q
  obtain ⟨q0, q1, q2, q3, q4, q5, q6⟩ := q
  have hv : U.vm.Alike (U.calling g mk a).vm := Vm.Alike.refl U.vm
  have hw : U.WarmedH (U.calling g mk a).vm := State.WarmedH.refl U
  exact ⟨q0, q1, q2, va_K.moved (u := U) (U := U.calling g mk a) hv q3, q4, zKh.moved (u := U) (U := U.calling g mk a) hv q5, zKs.warm (s := U) (U := U.calling g mk a) hw q6⟩
set_option maxHeartbeats 4000000 in
theorem zMet {μ : zMi} {N : Nat} {as : List Value} {S : zSh} {h : zMm} {Q : Option Value → zSh → zMm → Prop} (hok : zOK μ N) (hlen : (zEx as).length ≤ μ.2.2.1) (hcc : zCC μ as S h Q) (l : Launch) (dC : Nat → ClassId) (dI : Nat → Nat → Nat) (ca : Nat → ClassId) (ρ : Nat → Nat) (B : Nat) (hρ : ∀ o : Nat, o < 1000 → ρ o = B + o) :
    Met l μ.1 (zWs μ) μ.2.2.2.2.1 (zPc μ as S h dC dI ca ρ B) (zQc μ Q dC dI ca ρ B S.length (va_A (zWl ρ ca S h) (B + S.length))) μ.2.2.2.2.1.cells μ.2.2.2.2.1.slots (va_A (zWl ρ ca S h) (B + S.length)) := by
  refine Met.ofW (cc := μ.2.1) (maxL := μ.2.2.1) (ret := μ.2.2.2.1) hok.1 rfl ?_
  intro p e s m args below meth c s₁ Bd hml hv
  obtain ⟨rfl, hsz, hP, hK, hD0, hKh, hKs⟩ := hv
  have hb := Bd.bytes
  have hr := Bd.returns
  have hts := zWs_hts (atoms_spec (ws := zWs μ) Bd.pre)
  have hown : s.vm.findClass μ.1.cls = some m.cls := findClass_of_methodNamed Bd.named
  have hlocks := Bd.notSynchronized
  have hname : meth.name = μ.1.name := (name_of_methodNamed Bd.named Bd.method).1
  have hx := Bd.exec
  have hl := lv_entry (as.map (zV ρ)) (n := μ.2.2.1) (by rw [zEx_len]; exact hlen)
  rw [lg_entry_eq]
  generalize (lg_sl (as.map (zV ρ)) ++ List.replicate (μ.2.2.1 - (lg_sl (as.map (zV ρ))).length) Slot.unset).toArray = ls at hl ⊢
  rw [← hsz]
  refine hcc p l e s m _ below meth c dC dI ca ρ B (va_A (zWl ρ ca S h) s.heap.size) _ s.heap [] ls ⟨hx, hb, hr, hml, hown, hts, hlocks, fun hz => by rw [hname, hz], hK, hρ, fun q hq => Or.inr hq, by rw [hsz]; exact hKh, hKs, by unfold zX; rw [hok.2.2.2.2]; trivial⟩ ?_ (by rw [hsz]; rfl) ⟨hP, hD0.self, va_S.rf, by rw [hsz]; exact Nat.le_refl _⟩ (zLs_entry as hl)
  intro H locs ls pc k n r S' h' hk hn hN hH hQ hrt hd
  subst hk
  refine W.widen (Nat.le_refl _) hn ?_
  have hq : ∀ t : State, t.heap = H → s.WarmedH t.vm → zQc μ Q dC dI ca ρ B S.length (va_A (zWl ρ ca S h) s.heap.size) (as.map (zV ρ)).toArray s (.returned (r.map (zV ρ))) t := by
    intro t ht hW
    exact ⟨⟨r, S', h', rfl, hQ, by rw [ht]; exact hH.1, hH.2.1, by rw [ht]; exact hH.2.2.2, by omega⟩, hH.2.2.1.F ht⟩
  rcases hrt with ⟨h1, rfl⟩ | ⟨ty, x, h1, rfl, h3⟩ | ⟨h1, x, rfl⟩ | ⟨ty, h1, h2, a, rfl⟩
  · exact W.vret hx hb (by rw [hr, h1]) hq hH.2.2.1.2.2 hd
  · exact W.zret hx hb (by rw [hr, h1]) h3 hq hH.2.2.1.2.2 hd
  · exact W.lret hx hb (by rw [hr, h1]) hq hH.2.2.1.2.2 hd
  · exact W.aret hx hb (by rw [hr, h1]) h2 (Or.inr ⟨_, rfl⟩) hq hH.2.2.1.2.2 hd
/-- behind a call -/
theorem zGo {p : Program} {l : Launch} {e : Env} {R : Room} {s : State} {m : MethodId} {args : Array Value} {below : List Frame} {meth : Method} {c : Code} {H : Heap} {locs : List Loc} {k n mc ms : Nat} {Z : State → Prop} {pc : Nat} {ls : Array Slot} {st0 rest : List Value} {a : Array Value} {A0 A1 : Nat → Prop} {μ : zMi} {Q : Option Value → zSh → zMm → Prop} {dC : Nat → ClassId} {dI : Nat → Nat → Nat} {ca : Nat → ClassId} {ρ : Nat → Nat} {B k0 : Nat}
    (hr : va_Run p l e R s m args below meth c H locs k n mc ms (F0 m pc ls st0) rest (zQc μ Q dC dI ca ρ B k0 A1 a) A1) (hS : va_S A0 H H locs) (hA : ∀ q, A1 q → A0 q)
    (kk : ∀ (r : Option Value) (S' : zSh) (h' : zMm) (H1 : Heap) (locs1 : List Loc), Q r S' h' → va_P (dC, dI) vwCl (zWl ρ ca S' h') H1 → va_D A1 (zWl ρ ca S' h') → B + S'.length ≤ H1.size → k0 + μ.2.2.2.2.1.cells = S'.length → va_S A0 H H1 locs1 → W p l e R s m args below meth c H1 locs1 (k + mc) (n + ms) Z (F0 m (pc + 3) ls ((r.map (zV ρ)).toList ++ rest))) : W p l e R s m args below meth c H locs k n Z (F0 m pc ls st0) := by
  intro T hT X
  obtain ⟨v, st₀, t, T', L, h0, X', hL, e1, e2, ⟨⟨r, S', h', hv, hq, hP, hD, hz1, hz2⟩, hz, hk⟩, st⟩ := hr T hT X
  cases hv
  rw [h0] at hz hk
  obtain ⟨t2, a1, b1⟩ := kk r S' h' T'.heap (locs ++ L) hq (by rw [e1]; exact hP) hD (by rw [e1]; exact hz1) hz2 ⟨by rw [e1]; exact hz, fun q h1 h2 => by rw [e1]; exact hk q h1 (fun z => h2 (hA q z)), fun q hq => by
      rcases List.mem_append.mp hq with h | h
      · exact hS.2.2 q h
      · exact hA _ (hL q h)⟩ T' rfl X'
  exact ⟨t2, st t2 a1, b1⟩

theorem r_callV {μ : zMi} {k n pc : Nat} {L : List (Option Value)} {st : List Value} {S : zSh} {h : zMm} {Q : Option Value → zSh → zMm → Prop} {μ2 : zMi} {N idx : Nat} {o ci M : Nat} {C : String} {T : u_T} {rf : List (Option Nat)} (hc : vwCl[ci]? = some (C, T, M)) (ho : S[o]? = some (ci, M, rf)) (hl : Cond.methodLink μ.1.cls idx μ2.1 ∈ zTb) (hi : Cond.instanceMethod μ2.1 ∈ zTb) (hs : Cond.selects C μ2.1 μ2.1 ∈ zTb) {as : List Value} (hok : zOK μ2 N) (hrm : zRm μ μ2) (hd : decode μ.2.1 pc = .ok (.invokevirtual idx, 3)) (hlen : (zEx (.ref o :: as)).length ≤ μ2.2.2.1) (hN0 : as.length = N) (hst : (st.map fun v => v.category).sum ≤ 8) (hk : k + μ2.2.2.2.2.1.cells ≤ μ.2.2.2.2.1.cells) (hn : n + μ2.2.2.2.2.1.slots ≤ μ.2.2.2.2.1.slots)
    (kk : zCC μ2 (.ref o :: as) S h (fun r S' h' => RR μ (k + μ2.2.2.2.2.1.cells) (n + μ2.2.2.2.2.1.slots) (pc + 3) L (r.toList ++ st) S' h' Q)) : RR μ k n pc L (as.reverse ++ .ref o :: st) S h Q := by
  intro p l e s m args below meth c dC dI ca ρ B A Z H locs ls hC hG hN hH hL
  refine zW_size (fun hsz => ?_)
  have hq : H.size = B + S.length := by have := hH.2.2.2; omega
  have hcat : ((st.map (zV ρ)).map fun v => v.category).sum = (st.map fun v => v.category).sum := by
    rw [List.map_map]
    congr 1
    exact List.map_congr_left (fun v _ => zV_cat ρ v)
  have hAA : ∀ q, va_A (zWl ρ ca S h) (B + S.length) q → A q := fun q z => z.elim (fun ⟨i, w, z⟩ => hH.2.1.2 i _ z) (fun z => hC.2.2.2.2.2.2.2.2.2.2.1 q (Nat.le_trans hH.2.2.1.1 (by omega)))
  have hpre : ∀ (as : List Value) (U : State), U.heap = H → s.WarmedH U.vm → zPc μ2 as S h dC dI ca ρ B (as.map (zV ρ)).toArray U := fun as U hU hW => ⟨rfl, by rw [hU]; exact hq, by rw [hU]; exact hH.1, va_K.moved hW.alike hC.2.2.2.2.2.2.2.2.1, hH.2.1.weaken (fun _ _ _ _ => trivial), by rw [hU]; exact ((zKh.moved hW.alike hC.2.2.2.2.2.2.2.2.2.2.2.1).kept hH.2.2.1.2.1).narrow hAA, zKs.warm hW hC.2.2.2.2.2.2.2.2.2.2.2.2.1⟩
  have hfix : CallFix p m c μ.2.1 μ.2.2.1 s args zTb μ.1.cls := ⟨hC.1, hC.2.1, hC.2.2.2.1, hC.2.2.2.2.1, hC.2.2.2.2.2.1⟩
  have hM := zMet hok hlen kk l dC dI ca ρ B hC.2.2.2.2.2.2.2.2.2.1
  have hrc : ∃ cellB : Cell, H[ρ o]? = some cellB ∧ cellB.vm.isStatics = false ∧ s.vm.findClass C = some cellB.cls := by
    have he := zWl_get (ρ := ρ) (ca := ca) (h := h) ho
    rw [zEn_ob (zLt20 hc)] at he
    exact va_recv hC.2.2.2.2.2.2.2.2.1 hH.1 hc he
  have hp : PreV s H C (ρ o) (zPc μ2 (.ref o :: as) S h dC dI ca ρ B) (as.map (zV ρ)) := ⟨zPc_blind _ _ _ _ _ _ _ _ _, hrc, fun U hU hW => hpre (.ref o :: as) U hU hW⟩
  refine zGo (rest := st.map (zV ρ)) (va_runV (As := as.map (zV ρ)) hfix hM ⟨(callB_of N hC.2.2.2.2.2.1 (zWs_good hok) rfl rfl rfl (hC.2.2.2.2.2.1 _ hok.2.2.1) (hC.2.2.2.2.2.1 _ hl) hok.2.2.2.1 hrm), hC.2.2.2.2.2.1 _ hi, hC.2.2.2.2.2.1 _ hs⟩ hp rfl (by rw [List.length_map]; exact hN0) hL.1 (by simp [zV]) (lv_room (by rw [hcat]; exact hst)) hd ⟨hk, hn⟩) (zS_self hH.2.2.1) hAA (fun r S' h' H1 locs1 hQ hP1 hD1 hz1 hz2 hS1 => ?_)
  have hz := hQ p l e s m args below meth c dC dI ca ρ B A Z H1 locs1 ls hC hG (by omega) ⟨hP1, hD1.weaken (fun _ _ _ z => hAA _ z), zS_trans hH.2.2.1 hS1, hz1⟩ hL
  have e : (r.toList ++ st).map (zV ρ) = (r.map (zV ρ)).toList ++ st.map (zV ρ) := by
    cases r <;> rfl
  rw [e] at hz
  exact hz

theorem r_callVN {μ : zMi} {k n pc : Nat} {L : List (Option Value)} {st : List Value} {S : zSh} {h : zMm} {Q : Option Value → zSh → zMm → Prop} {μ2 : zMi} {N idx : Nat} {o ci M : Nat} {C : String} {T : u_T} {rf : List (Option Nat)} (hc : vwCl[ci]? = some (C, T, M)) (ho : S[o]? = some (ci, M, rf)) {host : String} (hl : Cond.methodLinkNest μ.1.cls idx μ2.1 host ∈ zNb) (hi : Cond.instanceMethod μ2.1 ∈ zTb) (hs : Cond.selects C μ2.1 μ2.1 ∈ zTb) {as : List Value} (hok : zOK μ2 N) (hrm : zRm μ μ2) (hd : decode μ.2.1 pc = .ok (.invokevirtual idx, 3)) (hlen : (zEx (.ref o :: as)).length ≤ μ2.2.2.1) (hN0 : as.length = N) (hst : (st.map fun v => v.category).sum ≤ 8) (hk : k + μ2.2.2.2.2.1.cells ≤ μ.2.2.2.2.1.cells) (hn : n + μ2.2.2.2.2.1.slots ≤ μ.2.2.2.2.1.slots)
    (kk : zCC μ2 (.ref o :: as) S h (fun r S' h' => RR μ (k + μ2.2.2.2.2.1.cells) (n + μ2.2.2.2.2.1.slots) (pc + 3) L (r.toList ++ st) S' h' Q)) : RR μ k n pc L (as.reverse ++ .ref o :: st) S h Q := by
  intro p l e s m args below meth c dC dI ca ρ B A Z H locs ls hC hG hN hH hL
  refine zW_size (fun hsz => ?_)
  have hq : H.size = B + S.length := by have := hH.2.2.2; omega
  have hcat : ((st.map (zV ρ)).map fun v => v.category).sum = (st.map fun v => v.category).sum := by
    rw [List.map_map]
    congr 1
    exact List.map_congr_left (fun v _ => zV_cat ρ v)
  have hAA : ∀ q, va_A (zWl ρ ca S h) (B + S.length) q → A q := fun q z => z.elim (fun ⟨i, w, z⟩ => hH.2.1.2 i _ z) (fun z => hC.2.2.2.2.2.2.2.2.2.2.1 q (Nat.le_trans hH.2.2.1.1 (by omega)))
  have hpre : ∀ (as : List Value) (U : State), U.heap = H → s.WarmedH U.vm → zPc μ2 as S h dC dI ca ρ B (as.map (zV ρ)).toArray U := fun as U hU hW => ⟨rfl, by rw [hU]; exact hq, by rw [hU]; exact hH.1, va_K.moved hW.alike hC.2.2.2.2.2.2.2.2.1, hH.2.1.weaken (fun _ _ _ _ => trivial), by rw [hU]; exact ((zKh.moved hW.alike hC.2.2.2.2.2.2.2.2.2.2.2.1).kept hH.2.2.1.2.1).narrow hAA, zKs.warm hW hC.2.2.2.2.2.2.2.2.2.2.2.2.1⟩
  have hfix : CallFix p m c μ.2.1 μ.2.2.1 s args zTb μ.1.cls := ⟨hC.1, hC.2.1, hC.2.2.2.1, hC.2.2.2.2.1, hC.2.2.2.2.2.1⟩
  have hM := zMet hok hlen kk l dC dI ca ρ B hC.2.2.2.2.2.2.2.2.2.1
  have hrc : ∃ cellB : Cell, H[ρ o]? = some cellB ∧ cellB.vm.isStatics = false ∧ s.vm.findClass C = some cellB.cls := by
    have he := zWl_get (ρ := ρ) (ca := ca) (h := h) ho
    rw [zEn_ob (zLt20 hc)] at he
    exact va_recv hC.2.2.2.2.2.2.2.2.1 hH.1 hc he
  have hp : PreV s H C (ρ o) (zPc μ2 (.ref o :: as) S h dC dI ca ρ B) (as.map (zV ρ)) := ⟨zPc_blind _ _ _ _ _ _ _ _ _, hrc, fun U hU hW => hpre (.ref o :: as) U hU hW⟩
  refine zGo (rest := st.map (zV ρ)) (va_runVN (As := as.map (zV ρ)) hfix hM ⟨(va_cnB N hC.2.2.2.2.2.1 (zWs_good hok) rfl rfl rfl (hC.2.2.2.2.2.2.2.2.2.2.2.2.1.2.1 _ hl) (hC.2.2.2.2.2.1 _ hok.2.2.1) hok.2.2.2.1 hrm), hC.2.2.2.2.2.1 _ hi, hC.2.2.2.2.2.1 _ hs⟩ hp rfl (by rw [List.length_map]; exact hN0) hL.1 (by simp [zV]) (lv_room (by rw [hcat]; exact hst)) hd ⟨hk, hn⟩) (zS_self hH.2.2.1) hAA (fun r S' h' H1 locs1 hQ hP1 hD1 hz1 hz2 hS1 => ?_)
  have hz := hQ p l e s m args below meth c dC dI ca ρ B A Z H1 locs1 ls hC hG (by omega) ⟨hP1, hD1.weaken (fun _ _ _ z => hAA _ z), zS_trans hH.2.2.1 hS1, hz1⟩ hL
  have e : (r.toList ++ st).map (zV ρ) = (r.map (zV ρ)).toList ++ st.map (zV ρ) := by
    cases r <;> rfl
  rw [e] at hz
  exact hz

theorem r_callS {μ : zMi} {k n pc : Nat} {L : List (Option Value)} {st : List Value} {S : zSh} {h : zMm} {Q : Option Value → zSh → zMm → Prop} {μ2 : zMi} {N idx : Nat} (hl : Cond.methodLink μ.1.cls idx μ2.1 ∈ zTb) (hi : Cond.static μ2.1 ∈ zTb) {as : List Value} (hok : zOK μ2 N) (hrm : zRm μ μ2) (hd : decode μ.2.1 pc = .ok (.invokestatic idx, 3)) (hlen : (zEx (as)).length ≤ μ2.2.2.1) (hN0 : as.length = N) (hst : (st.map fun v => v.category).sum ≤ 8) (hk : k + μ2.2.2.2.2.1.cells ≤ μ.2.2.2.2.1.cells) (hn : n + μ2.2.2.2.2.1.slots ≤ μ.2.2.2.2.1.slots)
    (kk : zCC μ2 (as) S h (fun r S' h' => RR μ (k + μ2.2.2.2.2.1.cells) (n + μ2.2.2.2.2.1.slots) (pc + 3) L (r.toList ++ st) S' h' Q)) : RR μ k n pc L (as.reverse ++ st) S h Q := by
  intro p l e s m args below meth c dC dI ca ρ B A Z H locs ls hC hG hN hH hL
  refine zW_size (fun hsz => ?_)
  have hq : H.size = B + S.length := by have := hH.2.2.2; omega
  have hcat : ((st.map (zV ρ)).map fun v => v.category).sum = (st.map fun v => v.category).sum := by
    rw [List.map_map]
    congr 1
    exact List.map_congr_left (fun v _ => zV_cat ρ v)
  have hAA : ∀ q, va_A (zWl ρ ca S h) (B + S.length) q → A q := fun q z => z.elim (fun ⟨i, w, z⟩ => hH.2.1.2 i _ z) (fun z => hC.2.2.2.2.2.2.2.2.2.2.1 q (Nat.le_trans hH.2.2.1.1 (by omega)))
  have hpre : ∀ (as : List Value) (U : State), U.heap = H → s.WarmedH U.vm → zPc μ2 as S h dC dI ca ρ B (as.map (zV ρ)).toArray U := fun as U hU hW => ⟨rfl, by rw [hU]; exact hq, by rw [hU]; exact hH.1, va_K.moved hW.alike hC.2.2.2.2.2.2.2.2.1, hH.2.1.weaken (fun _ _ _ _ => trivial), by rw [hU]; exact ((zKh.moved hW.alike hC.2.2.2.2.2.2.2.2.2.2.2.1).kept hH.2.2.1.2.1).narrow hAA, zKs.warm hW hC.2.2.2.2.2.2.2.2.2.2.2.2.1⟩
  have hfix : CallFix p m c μ.2.1 μ.2.2.1 s args zTb μ.1.cls := ⟨hC.1, hC.2.1, hC.2.2.2.1, hC.2.2.2.2.1, hC.2.2.2.2.2.1⟩
  have hM := zMet hok hlen kk l dC dI ca ρ B hC.2.2.2.2.2.2.2.2.2.1
  have hp : PreS s H (zPc μ2 as S h dC dI ca ρ B) (as.map (zV ρ)) := ⟨zPc_blind _ _ _ _ _ _ _ _ _, fun U hU hW => hpre as U hU hW⟩
  refine zGo (rest := st.map (zV ρ)) (va_runS (As := as.map (zV ρ)) hfix hM ⟨(callB_of N hC.2.2.2.2.2.1 (zWs_good hok) rfl rfl rfl (hC.2.2.2.2.2.1 _ hok.2.2.1) (hC.2.2.2.2.2.1 _ hl) hok.2.2.2.1 hrm), hC.2.2.2.2.2.1 _ hi⟩ hp rfl (by rw [List.length_map]; exact hN0) hL.1 (by simp [zV]) (lv_room (by rw [hcat]; exact hst)) hd ⟨hk, hn⟩) (zS_self hH.2.2.1) hAA (fun r S' h' H1 locs1 hQ hP1 hD1 hz1 hz2 hS1 => ?_)
  have hz := hQ p l e s m args below meth c dC dI ca ρ B A Z H1 locs1 ls hC hG (by omega) ⟨hP1, hD1.weaken (fun _ _ _ z => hAA _ z), zS_trans hH.2.2.1 hS1, hz1⟩ hL
  have e : (r.toList ++ st).map (zV ρ) = (r.map (zV ρ)).toList ++ st.map (zV ρ) := by
    cases r <;> rfl
  rw [e] at hz
  exact hz

theorem r_callSN {μ : zMi} {k n pc : Nat} {L : List (Option Value)} {st : List Value} {S : zSh} {h : zMm} {Q : Option Value → zSh → zMm → Prop} {μ2 : zMi} {N idx : Nat} {host : String} (hl : Cond.methodLinkNest μ.1.cls idx μ2.1 host ∈ zNb) (hi : Cond.static μ2.1 ∈ zTb) {as : List Value} (hok : zOK μ2 N) (hrm : zRm μ μ2) (hd : decode μ.2.1 pc = .ok (.invokestatic idx, 3)) (hlen : (zEx (as)).length ≤ μ2.2.2.1) (hN0 : as.length = N) (hst : (st.map fun v => v.category).sum ≤ 8) (hk : k + μ2.2.2.2.2.1.cells ≤ μ.2.2.2.2.1.cells) (hn : n + μ2.2.2.2.2.1.slots ≤ μ.2.2.2.2.1.slots)
    (kk : zCC μ2 (as) S h (fun r S' h' => RR μ (k + μ2.2.2.2.2.1.cells) (n + μ2.2.2.2.2.1.slots) (pc + 3) L (r.toList ++ st) S' h' Q)) : RR μ k n pc L (as.reverse ++ st) S h Q := by
  intro p l e s m args below meth c dC dI ca ρ B A Z H locs ls hC hG hN hH hL
  refine zW_size (fun hsz => ?_)
  have hq : H.size = B + S.length := by have := hH.2.2.2; omega
  have hcat : ((st.map (zV ρ)).map fun v => v.category).sum = (st.map fun v => v.category).sum := by
    rw [List.map_map]
    congr 1
    exact List.map_congr_left (fun v _ => zV_cat ρ v)
  have hAA : ∀ q, va_A (zWl ρ ca S h) (B + S.length) q → A q := fun q z => z.elim (fun ⟨i, w, z⟩ => hH.2.1.2 i _ z) (fun z => hC.2.2.2.2.2.2.2.2.2.2.1 q (Nat.le_trans hH.2.2.1.1 (by omega)))
  have hpre : ∀ (as : List Value) (U : State), U.heap = H → s.WarmedH U.vm → zPc μ2 as S h dC dI ca ρ B (as.map (zV ρ)).toArray U := fun as U hU hW => ⟨rfl, by rw [hU]; exact hq, by rw [hU]; exact hH.1, va_K.moved hW.alike hC.2.2.2.2.2.2.2.2.1, hH.2.1.weaken (fun _ _ _ _ => trivial), by rw [hU]; exact ((zKh.moved hW.alike hC.2.2.2.2.2.2.2.2.2.2.2.1).kept hH.2.2.1.2.1).narrow hAA, zKs.warm hW hC.2.2.2.2.2.2.2.2.2.2.2.2.1⟩
  have hfix : CallFix p m c μ.2.1 μ.2.2.1 s args zTb μ.1.cls := ⟨hC.1, hC.2.1, hC.2.2.2.1, hC.2.2.2.2.1, hC.2.2.2.2.2.1⟩
  have hM := zMet hok hlen kk l dC dI ca ρ B hC.2.2.2.2.2.2.2.2.2.1
  have hp : PreS s H (zPc μ2 as S h dC dI ca ρ B) (as.map (zV ρ)) := ⟨zPc_blind _ _ _ _ _ _ _ _ _, fun U hU hW => hpre as U hU hW⟩
  refine zGo (rest := st.map (zV ρ)) (va_runSN (As := as.map (zV ρ)) hfix hM ⟨(va_cnB N hC.2.2.2.2.2.1 (zWs_good hok) rfl rfl rfl (hC.2.2.2.2.2.2.2.2.2.2.2.2.1.2.1 _ hl) (hC.2.2.2.2.2.1 _ hok.2.2.1) hok.2.2.2.1 hrm), hC.2.2.2.2.2.1 _ hi, trivial⟩ hp rfl (by rw [List.length_map]; exact hN0) hL.1 (by simp [zV]) (lv_room (by rw [hcat]; exact hst)) hd ⟨hk, hn⟩) (zS_self hH.2.2.1) hAA (fun r S' h' H1 locs1 hQ hP1 hD1 hz1 hz2 hS1 => ?_)
  have hz := hQ p l e s m args below meth c dC dI ca ρ B A Z H1 locs1 ls hC hG (by omega) ⟨hP1, hD1.weaken (fun _ _ _ z => hAA _ z), zS_trans hH.2.2.1 hS1, hz1⟩ hL
  have e : (r.toList ++ st).map (zV ρ) = (r.map (zV ρ)).toList ++ st.map (zV ρ) := by
    cases r <;> rfl
  rw [e] at hz
  exact hz

theorem r_callI {μ : zMi} {k n pc : Nat} {L : List (Option Value)} {st : List Value} {S : zSh} {h : zMm} {Q : Option Value → zSh → zMm → Prop} {μ2 : zMi} {N idx : Nat} {o : Nat} (hl : Cond.methodLink μ.1.cls idx μ2.1 ∈ zTb) (hi : Cond.instanceMethod μ2.1 ∈ zTb) (hy1 : μ2.1.name = "<init>") (hr0 : μ2.2.2.2.1 = none) {as : List Value} (hok : zOK μ2 N) (hrm : zRm μ μ2) (hd : decode μ.2.1 pc = .ok (.invokespecial idx, 3)) (hlen : (zEx (.ref o :: as)).length ≤ μ2.2.2.1) (hN0 : as.length = N) (hst : (st.map fun v => v.category).sum ≤ 8) (hk : k + μ2.2.2.2.2.1.cells ≤ μ.2.2.2.2.1.cells) (hn : n + μ2.2.2.2.2.1.slots ≤ μ.2.2.2.2.1.slots)
    (kk : zCC μ2 (.ref o :: as) S h (fun r S' h' => RR μ (k + μ2.2.2.2.2.1.cells) (n + μ2.2.2.2.2.1.slots) (pc + 3) L (r.toList ++ st) S' h' Q)) : RR μ k n pc L (as.reverse ++ .ref o :: st) S h Q := by
  intro p l e s m args below meth c dC dI ca ρ B A Z H locs ls hC hG hN hH hL
  refine zW_size (fun hsz => ?_)
  have hq : H.size = B + S.length := by have := hH.2.2.2; omega
  have hcat : ((st.map (zV ρ)).map fun v => v.category).sum = (st.map fun v => v.category).sum := by
    rw [List.map_map]
    congr 1
    exact List.map_congr_left (fun v _ => zV_cat ρ v)
  have hAA : ∀ q, va_A (zWl ρ ca S h) (B + S.length) q → A q := fun q z => z.elim (fun ⟨i, w, z⟩ => hH.2.1.2 i _ z) (fun z => hC.2.2.2.2.2.2.2.2.2.2.1 q (Nat.le_trans hH.2.2.1.1 (by omega)))
  have hpre : ∀ (as : List Value) (U : State), U.heap = H → s.WarmedH U.vm → zPc μ2 as S h dC dI ca ρ B (as.map (zV ρ)).toArray U := fun as U hU hW => ⟨rfl, by rw [hU]; exact hq, by rw [hU]; exact hH.1, va_K.moved hW.alike hC.2.2.2.2.2.2.2.2.1, hH.2.1.weaken (fun _ _ _ _ => trivial), by rw [hU]; exact ((zKh.moved hW.alike hC.2.2.2.2.2.2.2.2.2.2.2.1).kept hH.2.2.1.2.1).narrow hAA, zKs.warm hW hC.2.2.2.2.2.2.2.2.2.2.2.2.1⟩
  have hfix : CallFix p m c μ.2.1 μ.2.2.1 s args zTb μ.1.cls := ⟨hC.1, hC.2.1, hC.2.2.2.1, hC.2.2.2.2.1, hC.2.2.2.2.2.1⟩
  have hM := zMet hok hlen kk l dC dI ca ρ B hC.2.2.2.2.2.2.2.2.2.1
  have hp : PreS s H (zPc μ2 (.ref o :: as) S h dC dI ca ρ B) (.ref (ρ o) :: as.map (zV ρ)) := ⟨zPc_blind _ _ _ _ _ _ _ _ _, fun U hU hW => hpre (.ref o :: as) U hU hW⟩
  refine zGo (rest := st.map (zV ρ)) (va_runI (As := as.map (zV ρ)) hfix hM ⟨by have h5 := (callB_of N hC.2.2.2.2.2.1 (zWs_good hok) rfl rfl rfl (hC.2.2.2.2.2.1 _ hok.2.2.1) (hC.2.2.2.2.2.1 _ hl) hok.2.2.2.1 hrm); rw [hr0] at h5; exact h5, hy1, hC.2.2.2.2.2.1 _ hi⟩ hp rfl (by rw [List.length_map]; exact hN0) hL.1 (by simp [zV]) (lv_room (by rw [hcat]; exact hst)) hd ⟨hk, hn⟩) (zS_self hH.2.2.1) hAA (fun r S' h' H1 locs1 hQ hP1 hD1 hz1 hz2 hS1 => ?_)
  have hz := hQ p l e s m args below meth c dC dI ca ρ B A Z H1 locs1 ls hC hG (by omega) ⟨hP1, hD1.weaken (fun _ _ _ z => hAA _ z), zS_trans hH.2.2.1 hS1, hz1⟩ hL
  have e : (r.toList ++ st).map (zV ρ) = (r.map (zV ρ)).toList ++ st.map (zV ρ) := by
    cases r <;> rfl
  rw [e] at hz
  exact hz

theorem r_callIN {μ : zMi} {k n pc : Nat} {L : List (Option Value)} {st : List Value} {S : zSh} {h : zMm} {Q : Option Value → zSh → zMm → Prop} {μ2 : zMi} {N idx : Nat} {o : Nat} {host : String} (hl : Cond.methodLinkNest μ.1.cls idx μ2.1 host ∈ zNb) (hi : Cond.instanceMethod μ2.1 ∈ zTb) (hy1 : μ2.1.name = "<init>") (hr0 : μ2.2.2.2.1 = none) {as : List Value} (hok : zOK μ2 N) (hrm : zRm μ μ2) (hd : decode μ.2.1 pc = .ok (.invokespecial idx, 3)) (hlen : (zEx (.ref o :: as)).length ≤ μ2.2.2.1) (hN0 : as.length = N) (hst : (st.map fun v => v.category).sum ≤ 8) (hk : k + μ2.2.2.2.2.1.cells ≤ μ.2.2.2.2.1.cells) (hn : n + μ2.2.2.2.2.1.slots ≤ μ.2.2.2.2.1.slots)
    (kk : zCC μ2 (.ref o :: as) S h (fun r S' h' => RR μ (k + μ2.2.2.2.2.1.cells) (n + μ2.2.2.2.2.1.slots) (pc + 3) L (r.toList ++ st) S' h' Q)) : RR μ k n pc L (as.reverse ++ .ref o :: st) S h Q := by
  intro p l e s m args below meth c dC dI ca ρ B A Z H locs ls hC hG hN hH hL
  refine zW_size (fun hsz => ?_)
  have hq : H.size = B + S.length := by have := hH.2.2.2; omega
  have hcat : ((st.map (zV ρ)).map fun v => v.category).sum = (st.map fun v => v.category).sum := by
    rw [List.map_map]
    congr 1
    exact List.map_congr_left (fun v _ => zV_cat ρ v)
  have hAA : ∀ q, va_A (zWl ρ ca S h) (B + S.length) q → A q := fun q z => z.elim (fun ⟨i, w, z⟩ => hH.2.1.2 i _ z) (fun z => hC.2.2.2.2.2.2.2.2.2.2.1 q (Nat.le_trans hH.2.2.1.1 (by omega)))
  have hpre : ∀ (as : List Value) (U : State), U.heap = H → s.WarmedH U.vm → zPc μ2 as S h dC dI ca ρ B (as.map (zV ρ)).toArray U := fun as U hU hW => ⟨rfl, by rw [hU]; exact hq, by rw [hU]; exact hH.1, va_K.moved hW.alike hC.2.2.2.2.2.2.2.2.1, hH.2.1.weaken (fun _ _ _ _ => trivial), by rw [hU]; exact ((zKh.moved hW.alike hC.2.2.2.2.2.2.2.2.2.2.2.1).kept hH.2.2.1.2.1).narrow hAA, zKs.warm hW hC.2.2.2.2.2.2.2.2.2.2.2.2.1⟩
  have hfix : CallFix p m c μ.2.1 μ.2.2.1 s args zTb μ.1.cls := ⟨hC.1, hC.2.1, hC.2.2.2.1, hC.2.2.2.2.1, hC.2.2.2.2.2.1⟩
  have hM := zMet hok hlen kk l dC dI ca ρ B hC.2.2.2.2.2.2.2.2.2.1
  have hp : PreS s H (zPc μ2 (.ref o :: as) S h dC dI ca ρ B) (.ref (ρ o) :: as.map (zV ρ)) := ⟨zPc_blind _ _ _ _ _ _ _ _ _, fun U hU hW => hpre (.ref o :: as) U hU hW⟩
  refine zGo (rest := st.map (zV ρ)) (va_runIN (As := as.map (zV ρ)) hfix hM ⟨by have h5 := (va_cnB N hC.2.2.2.2.2.1 (zWs_good hok) rfl rfl rfl (hC.2.2.2.2.2.2.2.2.2.2.2.2.1.2.1 _ hl) (hC.2.2.2.2.2.1 _ hok.2.2.1) hok.2.2.2.1 hrm); rw [hr0] at h5; exact h5, hy1, hC.2.2.2.2.2.1 _ hi⟩ hp rfl (by rw [List.length_map]; exact hN0) hL.1 (by simp [zV]) (lv_room (by rw [hcat]; exact hst)) hd ⟨hk, hn⟩) (zS_self hH.2.2.1) hAA (fun r S' h' H1 locs1 hQ hP1 hD1 hz1 hz2 hS1 => ?_)
  have hz := hQ p l e s m args below meth c dC dI ca ρ B A Z H1 locs1 ls hC hG (by omega) ⟨hP1, hD1.weaken (fun _ _ _ z => hAA _ z), zS_trans hH.2.2.1 hS1, hz1⟩ hL
  have e : (r.toList ++ st).map (zV ρ) = (r.map (zV ρ)).toList ++ st.map (zV ρ) := by
    cases r <;> rfl
  rw [e] at hz
  exact hz

theorem r_callStr {μ : zMi} {k n pc : Nat} {L : List (Option Value)} {st : List Value} {S : zSh} {h : zMm} {Q : Option Value → zSh → zMm → Prop} {μ2 : zMi} {N idx : Nat} {j : Nat} (hj : j < 11) (hl : Cond.methodLink μ.1.cls idx μ2.1 ∈ zTb) (hi : Cond.instanceMethod μ2.1 ∈ zTb) (hs : Cond.selects "java/lang/String" μ2.1 μ2.1 ∈ zTb) {as : List Value} (hok : zOK μ2 N) (hrm : zRm μ μ2) (hd : decode μ.2.1 pc = .ok (.invokevirtual idx, 3)) (hlen : (zEx (.ref (1000 + j) :: as)).length ≤ μ2.2.2.1) (hN0 : as.length = N) (hst : (st.map fun v => v.category).sum ≤ 8) (hk : k + μ2.2.2.2.2.1.cells ≤ μ.2.2.2.2.1.cells) (hn : n + μ2.2.2.2.2.1.slots ≤ μ.2.2.2.2.1.slots)
    (kk : zCC μ2 (.ref (1000 + j) :: as) S h (fun r S' h' => RR μ (k + μ2.2.2.2.2.1.cells) (n + μ2.2.2.2.2.1.slots) (pc + 3) L (r.toList ++ st) S' h' Q)) : RR μ k n pc L (as.reverse ++ .ref (1000 + j) :: st) S h Q := by
  intro p l e s m args below meth c dC dI ca ρ B A Z H locs ls hC hG hN hH hL
  refine zW_size (fun hsz => ?_)
  have hq : H.size = B + S.length := by have := hH.2.2.2; omega
  have hcat : ((st.map (zV ρ)).map fun v => v.category).sum = (st.map fun v => v.category).sum := by
    rw [List.map_map]
    congr 1
    exact List.map_congr_left (fun v _ => zV_cat ρ v)
  have hAA : ∀ q, va_A (zWl ρ ca S h) (B + S.length) q → A q := fun q z => z.elim (fun ⟨i, w, z⟩ => hH.2.1.2 i _ z) (fun z => hC.2.2.2.2.2.2.2.2.2.2.1 q (Nat.le_trans hH.2.2.1.1 (by omega)))
  have hpre : ∀ (as : List Value) (U : State), U.heap = H → s.WarmedH U.vm → zPc μ2 as S h dC dI ca ρ B (as.map (zV ρ)).toArray U := fun as U hU hW => ⟨rfl, by rw [hU]; exact hq, by rw [hU]; exact hH.1, va_K.moved hW.alike hC.2.2.2.2.2.2.2.2.1, hH.2.1.weaken (fun _ _ _ _ => trivial), by rw [hU]; exact ((zKh.moved hW.alike hC.2.2.2.2.2.2.2.2.2.2.2.1).kept hH.2.2.1.2.1).narrow hAA, zKs.warm hW hC.2.2.2.2.2.2.2.2.2.2.2.2.1⟩
  have hfix : CallFix p m c μ.2.1 μ.2.2.1 s args zTb μ.1.cls := ⟨hC.1, hC.2.1, hC.2.2.2.1, hC.2.2.2.2.1, hC.2.2.2.2.2.1⟩
  have hM := zMet hok hlen kk l dC dI ca ρ B hC.2.2.2.2.2.2.2.2.2.1
  have hp : PreV s H "java/lang/String" (ρ (1000 + j)) (zPc μ2 (.ref (1000 + j) :: as) S h dC dI ca ρ B) (as.map (zV ρ)) := ⟨zPc_blind _ _ _ _ _ _ _ _ _, vk_recv (adK := fun j => ρ (1000 + j)) (i := j) hC.2.2.2.2.2.2.2.2.2.2.2.1.1 hj hH.2.2.1, fun U hU hW => hpre (.ref (1000 + j) :: as) U hU hW⟩
  refine zGo (rest := st.map (zV ρ)) (va_runV (As := as.map (zV ρ)) hfix hM ⟨(callB_of N hC.2.2.2.2.2.1 (zWs_good hok) rfl rfl rfl (hC.2.2.2.2.2.1 _ hok.2.2.1) (hC.2.2.2.2.2.1 _ hl) hok.2.2.2.1 hrm), hC.2.2.2.2.2.1 _ hi, hC.2.2.2.2.2.1 _ hs⟩ hp rfl (by rw [List.length_map]; exact hN0) hL.1 (by simp [zV]) (lv_room (by rw [hcat]; exact hst)) hd ⟨hk, hn⟩) (zS_self hH.2.2.1) hAA (fun r S' h' H1 locs1 hQ hP1 hD1 hz1 hz2 hS1 => ?_)
  have hz := hQ p l e s m args below meth c dC dI ca ρ B A Z H1 locs1 ls hC hG (by omega) ⟨hP1, hD1.weaken (fun _ _ _ z => hAA _ z), zS_trans hH.2.2.1 hS1, hz1⟩ hL
  have e : (r.toList ++ st).map (zV ρ) = (r.map (zV ρ)).toList ++ st.map (zV ρ) := by
    cases r <;> rfl
  rw [e] at hz
  exact hz
