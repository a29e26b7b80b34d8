set_option maxRecDepth 100000 in
set_option maxHeartbeats 4000000 in
theorem whole_start {p : Program} {e : Env} {s : State} {m : MethodId} {below : List Frame} {meth : Method} {c : Code} (l : Launch) (hflags : l.flags = flags0) {b L : Nat} {xs : Nat → Int32} (hL : L ≤ 3584) (C0 : lw_At p s m meth c b L xs) : W p l e room_1 s m #[Value.ref b] below meth c s.heap [] 0 0 (lw_Z below #[Value.ref b] s) (entryFrame m ([Value.ref b] : List Value).toArray 4) := by
  obtain ⟨hx, hb, hr, hml, hown, hts, hX, hbl, hlocks, hgv⟩ := id C0
  have hA : ∀ q : Nat, q < s.heap.size → ¬ (fun q : Nat => s.heap.size ≤ q) q := fun q h => Nat.not_le.mpr h
  have htb : ∀ w ∈ zTb, w.before #[Value.ref b] s = true := fun w hw => hts w (List.mem_filter.mp hw).1
  have hnb : ∀ w ∈ zNb, w.before #[Value.ref b] s = true := fun w hw => hts w (List.mem_filter.mp hw).1
  have hs := flat_of_before _ hgv
  have tw : ∀ (i : Nat) (w : Cond), lw_tbl[i]? = some w → w.before #[Value.ref b] s = true := fun i w h => hts w (List.mem_of_getElem? h)
  obtain ⟨dC, dI, hKc⟩ := st_cls htb
  obtain ⟨a20, k20⟩ := st_ac (Or.inl rfl) (htb _ ac_int)
  obtain ⟨a21, k21⟩ := st_ac (Or.inr (Or.inl rfl)) (htb _ ac_long)
  obtain ⟨a22, k22⟩ := st_ac (Or.inr (Or.inr (Or.inl rfl))) (htb _ ac_byte)
  obtain ⟨a23, k23⟩ := st_ac (Or.inr (Or.inr (Or.inr rfl))) (htb _ ac_boolean)
  have ao : ∀ C ∈ zAo, (Cond.arrayOver (.object C)).before #[Value.ref b] s = true := by
    intro C hC
    simp only [zAo, List.mem_cons, List.not_mem_nil, or_false] at hC
    rcases hC with rfl | rfl | rfl
    · exact tw 480 _ (by decide +kernel)
    · exact tw 481 _ (by decide +kernel)
    · exact tw 483 _ (by decide +kernel)
  obtain ⟨a24, k24⟩ := st_ao (ao "LawnTrees$Garden" (by decide))
  obtain ⟨a25, k25⟩ := st_ao (ao "LawnTrees$Moves" (by decide))
  obtain ⟨a26, k26⟩ := st_ao (ao "LawnTrees$Sheet" (by decide))
  obtain ⟨adK, adV, hlit, hev⟩ := st_lit hgv hA
  have hit : (Cond.initialized "LawnTrees").before #[Value.ref b] s = true := tw 61 _ (by decide +kernel)
  obtain ⟨t0, z0, q0⟩ := st_row zSt0 hgv hA (by decide +kernel) (by decide +kernel) (by decide +kernel) (tw 757 _ (by decide +kernel)) hit
  obtain ⟨t1, z1, q1⟩ := st_row zSt1 hgv hA (by decide +kernel) (by decide +kernel) (by decide +kernel) (tw 759 _ (by decide +kernel)) hit
  obtain ⟨t2, z2, q2⟩ := st_row zSt2 hgv hA (by decide +kernel) (by decide +kernel) (by decide +kernel) (tw 143 _ (by decide +kernel)) hit
  have hcs : va_Z "java/lang/String" "COMPACT_STRINGS" "Z" (.int 1) (fun q : Nat => s.heap.size ≤ q) s s.heap := va_Zof (tw 633 _ (by decide +kernel)) (tw 76 _ (by decide +kernel)) (va_eqi (hs _ (by decide +kernel))) hA
  obtain ⟨fv, hfv, hfr⟩ := Cond.isRef_spec (hs (Cond.isRef (.static "jdk/internal/util/Preconditions" "SIOOBE_FORMATTER" "Ljava/util/function/BiFunction;")) (by decide +kernel))
  have hfz := va_Zof (tw 649 _ (by decide +kernel)) (tw 78 _ (by decide +kernel)) hfv hA
  obtain ⟨fa, hfa⟩ : ∃ fa : Nat, va_Z "jdk/internal/util/Preconditions" "SIOOBE_FORMATTER" "Ljava/util/function/BiFunction;" .null (fun q : Nat => s.heap.size ≤ q) s s.heap ∨ va_Z "jdk/internal/util/Preconditions" "SIOOBE_FORMATTER" "Ljava/util/function/BiFunction;" (.ref fa) (fun q : Nat => s.heap.size ≤ q) s s.heap := by
    cases fv with
    | null => exact ⟨0, Or.inl hfz⟩
    | ref a => exact ⟨a, Or.inr hfz⟩
    | _ => cases hfr
  generalize hca : (fun k : Nat => if k = 20 then a20 else if k = 21 then a21 else if k = 22 then a22 else if k = 23 then a23 else if k = 24 then a24 else if k = 25 then a25 else a26) = ca
  generalize hρ : (fun o : Nat => if o < 1000 then s.heap.size + o else if o < 1100 then adK (o - 1000) else if o < 1200 then adV (o - 1100) else if o = 1200 then t0 else if o = 1201 then t1 else if o = 1202 then t2 else if o = 1300 then b else fa) = ρ
  have r0 : ∀ o : Nat, o < 1000 → ρ o = s.heap.size + o := fun o ho => by rw [← hρ]; exact if_pos ho
  have rK : ∀ j : Nat, j < 11 → ρ (1000 + j) = adK j := fun j hj => by
    rw [← hρ]
    show (if 1000 + j < 1000 then _ else if 1000 + j < 1100 then adK (1000 + j - 1000) else _) = _
    rw [if_neg (by omega), if_pos (by omega), show 1000 + j - 1000 = j by omega]
  have rV : ∀ j : Nat, j < 11 → ρ (1100 + j) = adV j := fun j hj => by
    rw [← hρ]
    show (if 1100 + j < 1000 then _ else if 1100 + j < 1100 then _ else if 1100 + j < 1200 then adV (1100 + j - 1100) else _) = _
    rw [if_neg (by omega), if_neg (by omega), if_pos (by omega), show 1100 + j - 1100 = j by omega]
  have e0 : ρ 1200 = t0 := by rw [← hρ]; rfl
  have e1 : ρ 1201 = t1 := by rw [← hρ]; rfl
  have e2 : ρ 1202 = t2 := by rw [← hρ]; rfl
  have e3 : ρ 1300 = b := by rw [← hρ]; rfl
  have e4 : ρ 1400 = fa := by rw [← hρ]; rfl
  have hK : va_K (dC, dI) vwCl (zTys ca) s := by
    refine ⟨hKc, fun k q hq => ?_⟩
    rw [← hca] at hq
    match k with
    | 0 => cases hq; exact k20
    | 1 => cases hq; exact k21
    | 2 => cases hq; exact k22
    | 3 => cases hq; exact k23
    | 4 => cases hq; exact k24
    | 5 => cases hq; exact k25
    | 6 => cases hq; exact k26
    | k + 7 => simp [zTys] at hq
  have hKh : zKh ρ (fun q : Nat => s.heap.size ≤ q) s s.heap := by
    refine ⟨⟨fun i hi => ?_, fun i j hi hj h => ?_⟩, fun q hq => ?_, hcs, ?_⟩
    · show va_O _ (ρ (1000 + i)) _ _ _ ∧ va_OF _ _ _ _ (ρ (1000 + i)) _ _ _ ∧ va_OF _ _ _ (.ref (ρ (1100 + i))) (ρ (1000 + i)) _ _ _ ∧ va_T _ (ρ (1100 + i)) _ _ _ _ _
      rw [rK i hi, rV i hi]
      exact hlit.1 i hi
    · have h : ρ (1000 + i) = ρ (1000 + j) := h
      rw [rK i hi, rK j hj] at h
      exact hlit.2 i j hi hj h
    · simp only [zSt, List.mem_cons, List.not_mem_nil, or_false] at hq
      rcases hq with rfl | rfl | rfl
      · show va_Z _ _ _ (.ref (ρ 1200)) _ _ _ ∧ va_T _ (ρ 1200) _ _ _ _ _
        rw [e0]; exact ⟨z0, q0⟩
      · show va_Z _ _ _ (.ref (ρ 1201)) _ _ _ ∧ va_T _ (ρ 1201) _ _ _ _ _
        rw [e1]; exact ⟨z1, q1⟩
      · show va_Z _ _ _ (.ref (ρ 1202)) _ _ _ ∧ va_T _ (ρ 1202) _ _ _ _ _
        rw [e2]; exact ⟨z2, q2⟩
    · rw [e4]; exact hfa
  have hKs : zKs ρ s := by
    refine ⟨fun q hq => ?_, fun w hw => ?_, fun C hC => va_AO.of (ao C hC)⟩
    · have key : ∀ (i : Nat) (k : Nat) (tx : String), i < 11 → zTm i = .string RX9 k → (Cond.stringRef RX9 k tx).before #[Value.ref b] s = true → vk_R RX9 k tx (ρ (1000 + i)) s := by
        intro i k tx hi ht hw
        have h2 := hev i hi
        rw [ht] at h2
        rw [rK i hi]
        exact vk_R.of (A := #[Value.ref b]) hw h2
      simp only [zSr, List.mem_cons, List.not_mem_nil, or_false] at hq
      rcases hq with rfl | rfl | rfl | rfl | rfl | rfl | rfl | rfl | rfl | rfl | rfl
      · exact key 0 104 "row" (by decide) rfl (tw 610 _ (by decide +kernel))
      · exact key 1 106 "socket" (by decide) rfl (tw 611 _ (by decide +kernel))
      · exact key 2 108 "turn" (by decide) rfl (tw 612 _ (by decide +kernel))
      · exact key 3 110 "climb" (by decide) rfl (tw 613 _ (by decide +kernel))
      · exact key 4 112 "bag" (by decide) rfl (tw 614 _ (by decide +kernel))
      · exact key 5 114 "empty" (by decide) rfl (tw 615 _ (by decide +kernel))
      · exact key 6 116 "cord" (by decide) rfl (tw 616 _ (by decide +kernel))
      · exact key 7 118 "dew" (by decide) rfl (tw 617 _ (by decide +kernel))
      · exact key 8 120 "high" (by decide) rfl (tw 618 _ (by decide +kernel))
      · exact key 9 122 "sun" (by decide) rfl (tw 619 _ (by decide +kernel))
      · exact key 10 127 "glxbh" (by decide) rfl (tw 680 _ (by decide +kernel))
    · rcases zNb_is hw with ⟨a, i, b', n, d, x', rfl⟩ | ⟨a, i, x', y, rfl⟩
      · exact va_Nw.of rfl (hnb _ hw)
      · exact va_Nw.of rfl (hnb _ hw)
  have hl := lv_entry ([.ref b]) (n := 4) (Nat.le_of_ble_eq_true rfl)
  rw [lg_entry_eq]
  generalize (lg_sl ([.ref b]) ++ List.replicate (4 - (lg_sl ([.ref b])).length) Slot.unset).toArray = ls at hl ⊢
  have hl : lv_has ls 4 [(0, .ref b)] := hl
  have hW := lFirst (ξ := (L, fun j => (xs j).toInt)) hL (fun j => zR_to _) (fun _ _ => 0) p l e s m #[Value.ref b] below meth c dC dI ca ρ s.heap.size (fun q : Nat => s.heap.size ≤ q) (lw_Z below #[Value.ref b] s) s.heap [] ls
    ⟨hx, hb, hr, hml, hown, htb, hlocks, fun h => absurd (show x.name = "<init>" from h) (by decide), hK, r0, fun _ h => h, hKh, hKs, ?_⟩ ?_ rfl ⟨fun k q h => (by cases k <;> cases h), ⟨fun i j p q h => (by cases i <;> cases h), fun k q h => (by cases k <;> cases h)⟩, va_S.rf, Nat.le_refl _⟩ ⟨hl.1, hl.2.1, fun i v hi => ?_⟩
  · exact hW
  · show va_T .int (ρ 1300) L (fun j => .int (zI (xs j).toInt)) (fun q : Nat => s.heap.size ≤ q) s s.heap
    rw [e3]
    obtain ⟨scr, g1, g2, g3, g4, g5⟩ := hX
    refine ⟨scr, g1, g2, g3, by omega, by rw [g4] <;> rfl, fun j hj => ?_, hA b hbl⟩
    rw [g5 j hj]
    show some (Value.int (xs j)) = some (Value.int (zI (xs j).toInt))
    rw [zI_of]
  · intro H locs ls pc k n r S h hk hn hh hH hQ hret hd
    obtain ⟨-, x, rfl, hx1⟩ := hQ
    obtain rfl : x = true := hx1
    refine va_forget (fun q hq => hH.2.2.1.2.2 q hq) ?_
    refine W.widen (k := 108) (n := 32136) (Nat.le_of_eq hk) hn ?_
    exact lw_ret hx hb hr hlocks hd
  · match i with
    | 0 =>
      cases hi
      show ls[0]? = some (.val (.ref (ρ 1300)))
      rw [e3]
      exact hl.2.2 (0, .ref b) List.mem_cons_self
    | 1 => cases hi
    | 2 => cases hi
    | 3 => cases hi
    | i + 4 =>
      have hi : ([some (.ref 1300), none, none, none] : List (Option Value))[i + 4]? = some (some v) := hi
      simp at hi
