set_option maxRecDepth 100000 in
set_option maxHeartbeats 4000000 in
theorem lc_feed {ξ : Nat × (Nat → Int)} {a h : zMm} {i : Int} {x1 : Int} {x2 : Int} (W : WF a) (C : CR a h) (M : MR a h) (hi : 0 ≤ i ∧ i + 7 ≤ (ξ.1 : Int) ∧ ξ.1 ≤ 3584) (e1 : ξ.2 (i + 1).toNat = x1) (r1 : zR x1) (e2 : ξ.2 (i + 2).toNat = x2) (r2 : zR x2) (hG : lGo ξ i) : RR (mL ξ) 108 32136 204 [some (.ref 1300), some (.ref 0), some (.ref 81), some (.int (zI i))] [] zS0 h (zQb zS0 fun b _ => b = true) := by
  refine r_aload_n (pc := 204) (a := 0) dL_law_204 rfl ?_
  refine r_aload_n (pc := 205) (a := 1300) dL_law_205 rfl ?_
  refine r_iload_n (pc := 206) (x := i) dL_law_206 rfl ?_
  refine r_iconst (pc := 207) dL_law_207 ?_
  refine r_iadd (pc := 208) (x := i) (y := 1) dL_law_208 ?_
  refine r_xald (pc := 209) (ξ := ξ) (i := (i + 1)) (x := x1) rfl dL_law_209 ⟨by omega, by omega, by omega⟩ e1 ?_
  refine r_i2l (pc := 210) (x := x1) dL_law_210 r1 ?_
  refine r_bipush (pc := 211) (x := 32) dL_law_211 (by decide) ?_
  refine r_lshl (pc := 213) (x := x1) (y := 32) dL_law_213 ?_
  refine r_aload_n (pc := 214) (a := 1300) dL_law_214 rfl ?_
  refine r_iload_n (pc := 215) (x := i) dL_law_215 rfl ?_
  refine r_iconst (pc := 216) dL_law_216 ?_
  refine r_iadd (pc := 217) (x := i) (y := 2) dL_law_217 ?_
  refine r_xald (pc := 218) (ξ := ξ) (i := (i + 2)) (x := x2) rfl dL_law_218 ⟨by omega, by omega, by omega⟩ e2 ?_
  refine r_i2l (pc := 219) (x := x2) dL_law_219 r2 ?_
  refine r_ldcL (pc := 220) (x := 4294967295) dL_law_220 kl_L_13 ?_
  refine r_land (pc := 223) (x := x2) (y := 4294967295) dL_law_223 ?_
  refine r_lor (pc := 224) (x := (lSl x1 32)) (y := (lA x2 4294967295)) dL_law_224 ?_
  refine r_callV (μ2 := mX11_feed) (pc := 225) (as := [.long (zJ (lO (lSl x1 32) (lA x2 4294967295)))]) (st := []) rfl s0_0 ml_L_15 im_X11_feed se_X11_feed okX11_feed ⟨Nat.le_of_ble_eq_true rfl, Nat.le_of_ble_eq_true rfl⟩ dL_law_225 (Nat.le_of_ble_eq_true rfl) rfl (Nat.le_of_ble_eq_true rfl) (Nat.le_of_ble_eq_true rfl) (Nat.le_of_ble_eq_true rfl) (zCC.mono (cFeed W C (zRl_O _ _) (K := (fun x y => x = (fFeed a) ∧ CR (aFeed a (lO (lSl x1 32) (lA x2 4294967295))) y ∧ zHi81 h y)) (fun h' c f => ⟨rfl, c, f⟩)) ?_)
  rintro r S' h1 ⟨rfl, q1, hr1, rfl, C1, f1⟩
  subst hr1
  show RR (mL ξ) 108 32136 228 [some (.ref 1300), some (.ref 0), some (.ref 81), some (.int (zI i))] [.int (zI (fFeed a))] zS0 h1 (zQb zS0 fun b _ => b = true)
  refine r_aload_n (pc := 228) (a := 81) dL_law_228 rfl ?_
  refine r_aload_n (pc := 229) (a := 1300) dL_law_229 rfl ?_
  refine r_iload_n (pc := 230) (x := i) dL_law_230 rfl ?_
  refine r_iconst (pc := 231) dL_law_231 ?_
  refine r_iadd (pc := 232) (x := i) (y := 1) dL_law_232 ?_
  refine r_xald (pc := 233) (ξ := ξ) (i := (i + 1)) (x := x1) rfl dL_law_233 ⟨by omega, by omega, by omega⟩ e1 ?_
  refine r_i2l (pc := 234) (x := x1) dL_law_234 r1 ?_
  refine r_bipush (pc := 235) (x := 32) dL_law_235 (by decide) ?_
  refine r_lshl (pc := 237) (x := x1) (y := 32) dL_law_237 ?_
  refine r_aload_n (pc := 238) (a := 1300) dL_law_238 rfl ?_
  refine r_iload_n (pc := 239) (x := i) dL_law_239 rfl ?_
  refine r_iconst (pc := 240) dL_law_240 ?_
  refine r_iadd (pc := 241) (x := i) (y := 2) dL_law_241 ?_
  refine r_xald (pc := 242) (ξ := ξ) (i := (i + 2)) (x := x2) rfl dL_law_242 ⟨by omega, by omega, by omega⟩ e2 ?_
  refine r_i2l (pc := 243) (x := x2) dL_law_243 r2 ?_
  refine r_ldcL (pc := 244) (x := 4294967295) dL_law_244 kl_L_13 ?_
  refine r_land (pc := 247) (x := x2) (y := 4294967295) dL_law_247 ?_
  refine r_lor (pc := 248) (x := (lSl x1 32)) (y := (lA x2 4294967295)) dL_law_248 ?_
  refine r_callV (μ2 := mX12_feed) (pc := 249) (as := [.long (zJ (lO (lSl x1 32) (lA x2 4294967295)))]) (st := [.int (zI (fFeed a))]) rfl s0_81 ml_L_19 im_X12_feed se_X12_feed okX12_feed ⟨Nat.le_of_ble_eq_true rfl, Nat.le_of_ble_eq_true rfl⟩ dL_law_249 (Nat.le_of_ble_eq_true rfl) rfl (Nat.le_of_ble_eq_true rfl) (Nat.le_of_ble_eq_true rfl) (Nat.le_of_ble_eq_true rfl) (zCC.mono (mFeed W (M.hi f1) (K := (fun x y => x = (fFeed a) ∧ MR (aFeed a (lO (lSl x1 32) (lA x2 4294967295))) y ∧ zLo81 h1 y)) (fun h' c f => ⟨rfl, c, f⟩)) ?_)
  rintro r S' h2 ⟨rfl, q2, hr2, rfl, M2, f2⟩
  subst hr2
  show RR (mL ξ) 108 32136 252 [some (.ref 1300), some (.ref 0), some (.ref 81), some (.int (zI i))] [.int (zI (fFeed a)), .int (zI (fFeed a))] zS0 h2 (zQb zS0 fun b _ => b = true)
  refine q_icmp (pc := 252) (x := (fFeed a)) (tgt := 1421) dL_law_252 (by decide) ?_
  exact hG _ _ (wFeed W (zRl_O _ _)) (C1.lo f2) M2
set_option maxRecDepth 100000 in
set_option maxHeartbeats 4000000 in
theorem lc_end {ξ : Nat × (Nat → Int)} {a h : zMm} {i : Int} {x1 : Int} (W : WF a) (C : CR a h) (M : MR a h) (hi : 0 ≤ i ∧ i + 7 ≤ (ξ.1 : Int) ∧ ξ.1 ≤ 3584) (e1 : ξ.2 (i + 1).toNat = x1) (r1 : zR x1) (hG : lGo ξ i) : RR (mL ξ) 108 32136 257 [some (.ref 1300), some (.ref 0), some (.ref 81), some (.int (zI i))] [] zS0 h (zQb zS0 fun b _ => b = true) := by
  refine r_aload_n (pc := 257) (a := 0) dL_law_257 rfl ?_
  refine r_aload_n (pc := 258) (a := 1300) dL_law_258 rfl ?_
  refine r_iload_n (pc := 259) (x := i) dL_law_259 rfl ?_
  refine r_iconst (pc := 260) dL_law_260 ?_
  refine r_iadd (pc := 261) (x := i) (y := 1) dL_law_261 ?_
  refine r_xald (pc := 262) (ξ := ξ) (i := (i + 1)) (x := x1) rfl dL_law_262 ⟨by omega, by omega, by omega⟩ e1 ?_
  refine r_callV (μ2 := mX11_end) (pc := 263) (as := [.int (zI x1)]) (st := []) rfl s0_0 ml_L_20 im_X11_end se_X11_end okX11_end ⟨Nat.le_of_ble_eq_true rfl, Nat.le_of_ble_eq_true rfl⟩ dL_law_263 (Nat.le_of_ble_eq_true rfl) rfl (Nat.le_of_ble_eq_true rfl) (Nat.le_of_ble_eq_true rfl) (Nat.le_of_ble_eq_true rfl) (zCC.mono (cEnd W C r1 (K := (fun x y => x = (fEnd a x1) ∧ CR (aEnd a x1) y ∧ zHi81 h y)) (fun h' c f => ⟨rfl, c, f⟩)) ?_)
  rintro r S' h1 ⟨rfl, q1, hr1, rfl, C1, f1⟩
  subst hr1
  show RR (mL ξ) 108 32136 266 [some (.ref 1300), some (.ref 0), some (.ref 81), some (.int (zI i))] [.int (zI (fEnd a x1))] zS0 h1 (zQb zS0 fun b _ => b = true)
  refine r_aload_n (pc := 266) (a := 81) dL_law_266 rfl ?_
  refine r_aload_n (pc := 267) (a := 1300) dL_law_267 rfl ?_
  refine r_iload_n (pc := 268) (x := i) dL_law_268 rfl ?_
  refine r_iconst (pc := 269) dL_law_269 ?_
  refine r_iadd (pc := 270) (x := i) (y := 1) dL_law_270 ?_
  refine r_xald (pc := 271) (ξ := ξ) (i := (i + 1)) (x := x1) rfl dL_law_271 ⟨by omega, by omega, by omega⟩ e1 ?_
  refine r_callV (μ2 := mX12_end) (pc := 272) (as := [.int (zI x1)]) (st := [.int (zI (fEnd a x1))]) rfl s0_81 ml_L_24 im_X12_end se_X12_end okX12_end ⟨Nat.le_of_ble_eq_true rfl, Nat.le_of_ble_eq_true rfl⟩ dL_law_272 (Nat.le_of_ble_eq_true rfl) rfl (Nat.le_of_ble_eq_true rfl) (Nat.le_of_ble_eq_true rfl) (Nat.le_of_ble_eq_true rfl) (zCC.mono (mEnd W (M.hi f1) r1 (K := (fun x y => x = (fEnd a x1) ∧ MR (aEnd a x1) y ∧ zLo81 h1 y)) (fun h' c f => ⟨rfl, c, f⟩)) ?_)
  rintro r S' h2 ⟨rfl, q2, hr2, rfl, M2, f2⟩
  subst hr2
  show RR (mL ξ) 108 32136 275 [some (.ref 1300), some (.ref 0), some (.ref 81), some (.int (zI i))] [.int (zI (fEnd a x1)), .int (zI (fEnd a x1))] zS0 h2 (zQb zS0 fun b _ => b = true)
  refine q_icmp (pc := 275) (x := (fEnd a x1)) (tgt := 1421) dL_law_275 (by decide) ?_
  exact hG _ _ (wEnd W) (C1.lo f2) M2
set_option maxRecDepth 100000 in
set_option maxHeartbeats 4000000 in
theorem lc_garden {ξ : Nat × (Nat → Int)} {a h : zMm} {i : Int}  (W : WF a) (C : CR a h) (M : MR a h) (hi : 0 ≤ i ∧ i + 7 ≤ (ξ.1 : Int) ∧ ξ.1 ≤ 3584)  (hG : lGo ξ i) : RR (mL ξ) 108 32136 280 [some (.ref 1300), some (.ref 0), some (.ref 81), some (.int (zI i))] [] zS0 h (zQb zS0 fun b _ => b = true) := by
  refine r_aload_n (pc := 280) (a := 0) dL_law_280 rfl ?_
  refine r_callV (μ2 := mX11_garden) (pc := 281) (as := []) (st := []) rfl s0_0 ml_L_25 im_X11_garden se_X11_garden okX11_garden ⟨Nat.le_of_ble_eq_true rfl, Nat.le_of_ble_eq_true rfl⟩ dL_law_281 (Nat.le_of_ble_eq_true rfl) rfl (Nat.le_of_ble_eq_true rfl) (Nat.le_of_ble_eq_true rfl) (Nat.le_of_ble_eq_true rfl) (zCC.mono (cGarden W C (K := (fun x y => x = (fGarden a) ∧ CR (aGarden a) y ∧ zHi81 h y)) (fun h' c f => ⟨rfl, c, f⟩)) ?_)
  rintro r S' h1 ⟨rfl, q1, hr1, rfl, C1, f1⟩
  subst hr1
  show RR (mL ξ) 108 32136 284 [some (.ref 1300), some (.ref 0), some (.ref 81), some (.int (zI i))] [.int (zI (fGarden a))] zS0 h1 (zQb zS0 fun b _ => b = true)
  refine r_aload_n (pc := 284) (a := 81) dL_law_284 rfl ?_
  refine r_callV (μ2 := mX12_garden) (pc := 285) (as := []) (st := [.int (zI (fGarden a))]) rfl s0_81 ml_L_29 im_X12_garden se_X12_garden okX12_garden ⟨Nat.le_of_ble_eq_true rfl, Nat.le_of_ble_eq_true rfl⟩ dL_law_285 (Nat.le_of_ble_eq_true rfl) rfl (Nat.le_of_ble_eq_true rfl) (Nat.le_of_ble_eq_true rfl) (Nat.le_of_ble_eq_true rfl) (zCC.mono (mGarden W (M.hi f1) (K := (fun x y => x = (fGarden a) ∧ MR (aGarden a) y ∧ zLo81 h1 y)) (fun h' c f => ⟨rfl, c, f⟩)) ?_)
  rintro r S' h2 ⟨rfl, q2, hr2, rfl, M2, f2⟩
  subst hr2
  show RR (mL ξ) 108 32136 288 [some (.ref 1300), some (.ref 0), some (.ref 81), some (.int (zI i))] [.int (zI (fGarden a)), .int (zI (fGarden a))] zS0 h2 (zQb zS0 fun b _ => b = true)
  refine q_icmp (pc := 288) (x := (fGarden a)) (tgt := 1421) dL_law_288 (by decide) ?_
  exact hG _ _ (wGarden W) (C1.lo f2) M2
set_option maxRecDepth 100000 in
set_option maxHeartbeats 4000000 in
theorem lc_fault {ξ : Nat × (Nat → Int)} {a h : zMm} {i : Int}  (W : WF a) (C : CR a h) (M : MR a h) (hi : 0 ≤ i ∧ i + 7 ≤ (ξ.1 : Int) ∧ ξ.1 ≤ 3584)  (hG : lGo ξ i) : RR (mL ξ) 108 32136 293 [some (.ref 1300), some (.ref 0), some (.ref 81), some (.int (zI i))] [] zS0 h (zQb zS0 fun b _ => b = true) := by
  refine r_aload_n (pc := 293) (a := 0) dL_law_293 rfl ?_
  refine r_callV (μ2 := mX11_fault) (pc := 294) (as := []) (st := []) rfl s0_0 ml_L_30 im_X11_fault se_X11_fault okX11_fault ⟨Nat.le_of_ble_eq_true rfl, Nat.le_of_ble_eq_true rfl⟩ dL_law_294 (Nat.le_of_ble_eq_true rfl) rfl (Nat.le_of_ble_eq_true rfl) (Nat.le_of_ble_eq_true rfl) (Nat.le_of_ble_eq_true rfl) (zCC.mono (cFault C (K := (fun x y => x = (a 7 2) ∧ CR a y ∧ zHi81 h y)) ⟨rfl, C, fun _ _ => rfl⟩) ?_)
  rintro r S' h1 ⟨rfl, q1, hr1, rfl, C1, f1⟩
  subst hr1
  show RR (mL ξ) 108 32136 297 [some (.ref 1300), some (.ref 0), some (.ref 81), some (.int (zI i))] [.int (zI (a 7 2))] zS0 h1 (zQb zS0 fun b _ => b = true)
  refine r_aload_n (pc := 297) (a := 81) dL_law_297 rfl ?_
  refine r_callV (μ2 := mX12_fault) (pc := 298) (as := []) (st := [.int (zI (a 7 2))]) rfl s0_81 ml_L_33 im_X12_fault se_X12_fault okX12_fault ⟨Nat.le_of_ble_eq_true rfl, Nat.le_of_ble_eq_true rfl⟩ dL_law_298 (Nat.le_of_ble_eq_true rfl) rfl (Nat.le_of_ble_eq_true rfl) (Nat.le_of_ble_eq_true rfl) (Nat.le_of_ble_eq_true rfl) (zCC.mono (mFault (M.hi f1) (K := (fun x y => x = (a 7 2) ∧ MR a y ∧ zLo81 h1 y)) ⟨rfl, (M.hi f1), fun _ _ => rfl⟩) ?_)
  rintro r S' h2 ⟨rfl, q2, hr2, rfl, M2, f2⟩
  subst hr2
  show RR (mL ξ) 108 32136 301 [some (.ref 1300), some (.ref 0), some (.ref 81), some (.int (zI i))] [.int (zI (a 7 2)), .int (zI (a 7 2))] zS0 h2 (zQb zS0 fun b _ => b = true)
  refine q_icmp (pc := 301) (x := (a 7 2)) (tgt := 1421) dL_law_301 (by decide) ?_
  exact hG _ _ W (C1.lo f2) M2
set_option maxRecDepth 100000 in
set_option maxHeartbeats 4000000 in
theorem lc_rule {ξ : Nat × (Nat → Int)} {a h : zMm} {i : Int} {x1 : Int} (W : WF a) (C : CR a h) (M : MR a h) (hi : 0 ≤ i ∧ i + 7 ≤ (ξ.1 : Int) ∧ ξ.1 ≤ 3584) (e1 : ξ.2 (i + 1).toNat = x1) (r1 : zR x1) (hG : lGo ξ i) : RR (mL ξ) 108 32136 306 [some (.ref 1300), some (.ref 0), some (.ref 81), some (.int (zI i))] [] zS0 h (zQb zS0 fun b _ => b = true) := by
  refine r_aload_n (pc := 306) (a := 0) dL_law_306 rfl ?_
  refine r_aload_n (pc := 307) (a := 1300) dL_law_307 rfl ?_
  refine r_iload_n (pc := 308) (x := i) dL_law_308 rfl ?_
  refine r_iconst (pc := 309) dL_law_309 ?_
  refine r_iadd (pc := 310) (x := i) (y := 1) dL_law_310 ?_
  refine r_xald (pc := 311) (ξ := ξ) (i := (i + 1)) (x := x1) rfl dL_law_311 ⟨by omega, by omega, by omega⟩ e1 ?_
  refine r_callV (μ2 := mX11_rule) (pc := 312) (as := [.int (zI x1)]) (st := []) rfl s0_0 ml_L_34 im_X11_rule se_X11_rule okX11_rule ⟨Nat.le_of_ble_eq_true rfl, Nat.le_of_ble_eq_true rfl⟩ dL_law_312 (Nat.le_of_ble_eq_true rfl) rfl (Nat.le_of_ble_eq_true rfl) (Nat.le_of_ble_eq_true rfl) (Nat.le_of_ble_eq_true rfl) (zCC.mono (cRule C r1 (K := (fun x y => x = (fRule a x1) ∧ CR a y ∧ zHi81 h y)) ⟨rfl, C, fun _ _ => rfl⟩) ?_)
  rintro r S' h1 ⟨rfl, q1, hr1, rfl, C1, f1⟩
  subst hr1
  show RR (mL ξ) 108 32136 315 [some (.ref 1300), some (.ref 0), some (.ref 81), some (.int (zI i))] [.int (zI (fRule a x1))] zS0 h1 (zQb zS0 fun b _ => b = true)
  refine r_aload_n (pc := 315) (a := 81) dL_law_315 rfl ?_
  refine r_aload_n (pc := 316) (a := 1300) dL_law_316 rfl ?_
  refine r_iload_n (pc := 317) (x := i) dL_law_317 rfl ?_
  refine r_iconst (pc := 318) dL_law_318 ?_
  refine r_iadd (pc := 319) (x := i) (y := 1) dL_law_319 ?_
  refine r_xald (pc := 320) (ξ := ξ) (i := (i + 1)) (x := x1) rfl dL_law_320 ⟨by omega, by omega, by omega⟩ e1 ?_
  refine r_callV (μ2 := mX12_rule) (pc := 321) (as := [.int (zI x1)]) (st := [.int (zI (fRule a x1))]) rfl s0_81 ml_L_37 im_X12_rule se_X12_rule okX12_rule ⟨Nat.le_of_ble_eq_true rfl, Nat.le_of_ble_eq_true rfl⟩ dL_law_321 (Nat.le_of_ble_eq_true rfl) rfl (Nat.le_of_ble_eq_true rfl) (Nat.le_of_ble_eq_true rfl) (Nat.le_of_ble_eq_true rfl) (zCC.mono (mRule (M.hi f1) r1 (K := (fun x y => x = (fRule a x1) ∧ MR a y ∧ zLo81 h1 y)) ⟨rfl, (M.hi f1), fun _ _ => rfl⟩) ?_)
  rintro r S' h2 ⟨rfl, q2, hr2, rfl, M2, f2⟩
  subst hr2
  show RR (mL ξ) 108 32136 324 [some (.ref 1300), some (.ref 0), some (.ref 81), some (.int (zI i))] [.int (zI (fRule a x1)), .int (zI (fRule a x1))] zS0 h2 (zQb zS0 fun b _ => b = true)
  refine q_icmp (pc := 324) (x := (fRule a x1)) (tgt := 1421) dL_law_324 (by decide) ?_
  exact hG _ _ W (C1.lo f2) M2
set_option maxRecDepth 100000 in
set_option maxHeartbeats 4000000 in
theorem lc_cell {ξ : Nat × (Nat → Int)} {a h : zMm} {i : Int} {x1 : Int} {x2 : Int} (W : WF a) (C : CR a h) (M : MR a h) (hi : 0 ≤ i ∧ i + 7 ≤ (ξ.1 : Int) ∧ ξ.1 ≤ 3584) (e1 : ξ.2 (i + 1).toNat = x1) (r1 : zR x1) (e2 : ξ.2 (i + 2).toNat = x2) (r2 : zR x2) (hG : lGo ξ i) : RR (mL ξ) 108 32136 329 [some (.ref 1300), some (.ref 0), some (.ref 81), some (.int (zI i))] [] zS0 h (zQb zS0 fun b _ => b = true) := by
  refine r_aload_n (pc := 329) (a := 0) dL_law_329 rfl ?_
  refine r_aload_n (pc := 330) (a := 1300) dL_law_330 rfl ?_
  refine r_iload_n (pc := 331) (x := i) dL_law_331 rfl ?_
  refine r_iconst (pc := 332) dL_law_332 ?_
  refine r_iadd (pc := 333) (x := i) (y := 1) dL_law_333 ?_
  refine r_xald (pc := 334) (ξ := ξ) (i := (i + 1)) (x := x1) rfl dL_law_334 ⟨by omega, by omega, by omega⟩ e1 ?_
  refine r_aload_n (pc := 335) (a := 1300) dL_law_335 rfl ?_
  refine r_iload_n (pc := 336) (x := i) dL_law_336 rfl ?_
  refine r_iconst (pc := 337) dL_law_337 ?_
  refine r_iadd (pc := 338) (x := i) (y := 2) dL_law_338 ?_
  refine r_xald (pc := 339) (ξ := ξ) (i := (i + 2)) (x := x2) rfl dL_law_339 ⟨by omega, by omega, by omega⟩ e2 ?_
  refine r_callV (μ2 := mX11_cell) (pc := 340) (as := [.int (zI x1), .int (zI x2)]) (st := []) rfl s0_0 ml_L_38 im_X11_cell se_X11_cell okX11_cell ⟨Nat.le_of_ble_eq_true rfl, Nat.le_of_ble_eq_true rfl⟩ dL_law_340 (Nat.le_of_ble_eq_true rfl) rfl (Nat.le_of_ble_eq_true rfl) (Nat.le_of_ble_eq_true rfl) (Nat.le_of_ble_eq_true rfl) (zCC.mono (cCell C r1 r2 (K := (fun x y => x = (fCell a x1 x2) ∧ CR a y ∧ zHi81 h y)) ⟨rfl, C, fun _ _ => rfl⟩) ?_)
  rintro r S' h1 ⟨rfl, q1, hr1, rfl, C1, f1⟩
  subst hr1
  show RR (mL ξ) 108 32136 343 [some (.ref 1300), some (.ref 0), some (.ref 81), some (.int (zI i))] [.int (zI (fCell a x1 x2))] zS0 h1 (zQb zS0 fun b _ => b = true)
  refine r_aload_n (pc := 343) (a := 81) dL_law_343 rfl ?_
  refine r_aload_n (pc := 344) (a := 1300) dL_law_344 rfl ?_
  refine r_iload_n (pc := 345) (x := i) dL_law_345 rfl ?_
  refine r_iconst (pc := 346) dL_law_346 ?_
  refine r_iadd (pc := 347) (x := i) (y := 1) dL_law_347 ?_
  refine r_xald (pc := 348) (ξ := ξ) (i := (i + 1)) (x := x1) rfl dL_law_348 ⟨by omega, by omega, by omega⟩ e1 ?_
  refine r_aload_n (pc := 349) (a := 1300) dL_law_349 rfl ?_
  refine r_iload_n (pc := 350) (x := i) dL_law_350 rfl ?_
  refine r_iconst (pc := 351) dL_law_351 ?_
  refine r_iadd (pc := 352) (x := i) (y := 2) dL_law_352 ?_
  refine r_xald (pc := 353) (ξ := ξ) (i := (i + 2)) (x := x2) rfl dL_law_353 ⟨by omega, by omega, by omega⟩ e2 ?_
  refine r_callV (μ2 := mX12_cell) (pc := 354) (as := [.int (zI x1), .int (zI x2)]) (st := [.int (zI (fCell a x1 x2))]) rfl s0_81 ml_L_42 im_X12_cell se_X12_cell okX12_cell ⟨Nat.le_of_ble_eq_true rfl, Nat.le_of_ble_eq_true rfl⟩ dL_law_354 (Nat.le_of_ble_eq_true rfl) rfl (Nat.le_of_ble_eq_true rfl) (Nat.le_of_ble_eq_true rfl) (Nat.le_of_ble_eq_true rfl) (zCC.mono (mCell W (M.hi f1) r1 r2 (K := (fun x y => x = (fCell a x1 x2) ∧ MR a y ∧ zLo81 h1 y)) (fun h' c f => ⟨rfl, c, f⟩)) ?_)
  rintro r S' h2 ⟨rfl, q2, hr2, rfl, M2, f2⟩
  subst hr2
  show RR (mL ξ) 108 32136 357 [some (.ref 1300), some (.ref 0), some (.ref 81), some (.int (zI i))] [.int (zI (fCell a x1 x2)), .int (zI (fCell a x1 x2))] zS0 h2 (zQb zS0 fun b _ => b = true)
  refine q_icmp (pc := 357) (x := (fCell a x1 x2)) (tgt := 1421) dL_law_357 (by decide) ?_
  exact hG _ _ W (C1.lo f2) M2
set_option maxRecDepth 100000 in
set_option maxHeartbeats 4000000 in
theorem lc_put {ξ : Nat × (Nat → Int)} {a h : zMm} {i : Int} {x1 : Int} {x2 : Int} (W : WF a) (C : CR a h) (M : MR a h) (hi : 0 ≤ i ∧ i + 7 ≤ (ξ.1 : Int) ∧ ξ.1 ≤ 3584) (e1 : ξ.2 (i + 1).toNat = x1) (r1 : zR x1) (e2 : ξ.2 (i + 2).toNat = x2) (r2 : zR x2) (hG : lGo ξ i) : RR (mL ξ) 108 32136 362 [some (.ref 1300), some (.ref 0), some (.ref 81), some (.int (zI i))] [] zS0 h (zQb zS0 fun b _ => b = true) := by
  refine r_aload_n (pc := 362) (a := 0) dL_law_362 rfl ?_
  refine r_aload_n (pc := 363) (a := 1300) dL_law_363 rfl ?_
  refine r_iload_n (pc := 364) (x := i) dL_law_364 rfl ?_
  refine r_iconst (pc := 365) dL_law_365 ?_
  refine r_iadd (pc := 366) (x := i) (y := 1) dL_law_366 ?_
  refine r_xald (pc := 367) (ξ := ξ) (i := (i + 1)) (x := x1) rfl dL_law_367 ⟨by omega, by omega, by omega⟩ e1 ?_
  refine r_aload_n (pc := 368) (a := 1300) dL_law_368 rfl ?_
  refine r_iload_n (pc := 369) (x := i) dL_law_369 rfl ?_
  refine r_iconst (pc := 370) dL_law_370 ?_
  refine r_iadd (pc := 371) (x := i) (y := 2) dL_law_371 ?_
  refine r_xald (pc := 372) (ξ := ξ) (i := (i + 2)) (x := x2) rfl dL_law_372 ⟨by omega, by omega, by omega⟩ e2 ?_
  refine r_callV (μ2 := mX11_put) (pc := 373) (as := [.int (zI x1), .int (zI x2)]) (st := []) rfl s0_0 ml_L_43 im_X11_put se_X11_put okX11_put ⟨Nat.le_of_ble_eq_true rfl, Nat.le_of_ble_eq_true rfl⟩ dL_law_373 (Nat.le_of_ble_eq_true rfl) rfl (Nat.le_of_ble_eq_true rfl) (Nat.le_of_ble_eq_true rfl) (Nat.le_of_ble_eq_true rfl) (zCC.mono (cPut W C r1 r2 (K := (fun x y => x = (fPut a x1 x2) ∧ CR (aPut a x1 x2) y ∧ zHi81 h y)) (fun h' c f => ⟨rfl, c, f⟩)) ?_)
  rintro r S' h1 ⟨rfl, q1, hr1, rfl, C1, f1⟩
  subst hr1
  show RR (mL ξ) 108 32136 376 [some (.ref 1300), some (.ref 0), some (.ref 81), some (.int (zI i))] [.int (zI (fPut a x1 x2))] zS0 h1 (zQb zS0 fun b _ => b = true)
  refine r_aload_n (pc := 376) (a := 81) dL_law_376 rfl ?_
  refine r_aload_n (pc := 377) (a := 1300) dL_law_377 rfl ?_
  refine r_iload_n (pc := 378) (x := i) dL_law_378 rfl ?_
  refine r_iconst (pc := 379) dL_law_379 ?_
  refine r_iadd (pc := 380) (x := i) (y := 1) dL_law_380 ?_
  refine r_xald (pc := 381) (ξ := ξ) (i := (i + 1)) (x := x1) rfl dL_law_381 ⟨by omega, by omega, by omega⟩ e1 ?_
  refine r_aload_n (pc := 382) (a := 1300) dL_law_382 rfl ?_
  refine r_iload_n (pc := 383) (x := i) dL_law_383 rfl ?_
  refine r_iconst (pc := 384) dL_law_384 ?_
  refine r_iadd (pc := 385) (x := i) (y := 2) dL_law_385 ?_
  refine r_xald (pc := 386) (ξ := ξ) (i := (i + 2)) (x := x2) rfl dL_law_386 ⟨by omega, by omega, by omega⟩ e2 ?_
  refine r_callV (μ2 := mX12_put) (pc := 387) (as := [.int (zI x1), .int (zI x2)]) (st := [.int (zI (fPut a x1 x2))]) rfl s0_81 ml_L_46 im_X12_put se_X12_put okX12_put ⟨Nat.le_of_ble_eq_true rfl, Nat.le_of_ble_eq_true rfl⟩ dL_law_387 (Nat.le_of_ble_eq_true rfl) rfl (Nat.le_of_ble_eq_true rfl) (Nat.le_of_ble_eq_true rfl) (Nat.le_of_ble_eq_true rfl) (zCC.mono (mPut W (M.hi f1) r1 r2 (K := (fun x y => x = (fPut a x1 x2) ∧ MR (aPut a x1 x2) y ∧ zLo81 h1 y)) (fun h' c f => ⟨rfl, c, f⟩)) ?_)
  rintro r S' h2 ⟨rfl, q2, hr2, rfl, M2, f2⟩
  subst hr2
  show RR (mL ξ) 108 32136 390 [some (.ref 1300), some (.ref 0), some (.ref 81), some (.int (zI i))] [.int (zI (fPut a x1 x2)), .int (zI (fPut a x1 x2))] zS0 h2 (zQb zS0 fun b _ => b = true)
  refine q_icmp (pc := 390) (x := (fPut a x1 x2)) (tgt := 1421) dL_law_390 (by decide) ?_
  exact hG _ _ (wPut W) (C1.lo f2) M2
set_option maxRecDepth 100000 in
set_option maxHeartbeats 4000000 in
theorem lc_move {ξ : Nat × (Nat → Int)} {a h : zMm} {i : Int} {x1 : Int} {x2 : Int} (W : WF a) (C : CR a h) (M : MR a h) (hi : 0 ≤ i ∧ i + 7 ≤ (ξ.1 : Int) ∧ ξ.1 ≤ 3584) (e1 : ξ.2 (i + 1).toNat = x1) (r1 : zR x1) (e2 : ξ.2 (i + 2).toNat = x2) (r2 : zR x2) (hG : lGo ξ i) : RR (mL ξ) 108 32136 395 [some (.ref 1300), some (.ref 0), some (.ref 81), some (.int (zI i))] [] zS0 h (zQb zS0 fun b _ => b = true) := by
  refine r_aload_n (pc := 395) (a := 0) dL_law_395 rfl ?_
  refine r_aload_n (pc := 396) (a := 1300) dL_law_396 rfl ?_
  refine r_iload_n (pc := 397) (x := i) dL_law_397 rfl ?_
  refine r_iconst (pc := 398) dL_law_398 ?_
  refine r_iadd (pc := 399) (x := i) (y := 1) dL_law_399 ?_
  refine r_xald (pc := 400) (ξ := ξ) (i := (i + 1)) (x := x1) rfl dL_law_400 ⟨by omega, by omega, by omega⟩ e1 ?_
  refine r_aload_n (pc := 401) (a := 1300) dL_law_401 rfl ?_
  refine r_iload_n (pc := 402) (x := i) dL_law_402 rfl ?_
  refine r_iconst (pc := 403) dL_law_403 ?_
  refine r_iadd (pc := 404) (x := i) (y := 2) dL_law_404 ?_
  refine r_xald (pc := 405) (ξ := ξ) (i := (i + 2)) (x := x2) rfl dL_law_405 ⟨by omega, by omega, by omega⟩ e2 ?_
  refine r_callV (μ2 := mX11_move) (pc := 406) (as := [.int (zI x1), .int (zI x2)]) (st := []) rfl s0_0 ml_L_47 im_X11_move se_X11_move okX11_move ⟨Nat.le_of_ble_eq_true rfl, Nat.le_of_ble_eq_true rfl⟩ dL_law_406 (Nat.le_of_ble_eq_true rfl) rfl (Nat.le_of_ble_eq_true rfl) (Nat.le_of_ble_eq_true rfl) (Nat.le_of_ble_eq_true rfl) (zCC.mono (cMove W C r1 r2 (K := (fun x y => x = (fMove a x1 x2) ∧ CR (aMove a x1 x2) y ∧ zHi81 h y)) (fun h' c f => ⟨rfl, c, f⟩)) ?_)
  rintro r S' h1 ⟨rfl, q1, hr1, rfl, C1, f1⟩
  subst hr1
  show RR (mL ξ) 108 32136 409 [some (.ref 1300), some (.ref 0), some (.ref 81), some (.int (zI i))] [.int (zI (fMove a x1 x2))] zS0 h1 (zQb zS0 fun b _ => b = true)
  refine r_aload_n (pc := 409) (a := 81) dL_law_409 rfl ?_
  refine r_aload_n (pc := 410) (a := 1300) dL_law_410 rfl ?_
  refine r_iload_n (pc := 411) (x := i) dL_law_411 rfl ?_
  refine r_iconst (pc := 412) dL_law_412 ?_
  refine r_iadd (pc := 413) (x := i) (y := 1) dL_law_413 ?_
  refine r_xald (pc := 414) (ξ := ξ) (i := (i + 1)) (x := x1) rfl dL_law_414 ⟨by omega, by omega, by omega⟩ e1 ?_
  refine r_aload_n (pc := 415) (a := 1300) dL_law_415 rfl ?_
  refine r_iload_n (pc := 416) (x := i) dL_law_416 rfl ?_
  refine r_iconst (pc := 417) dL_law_417 ?_
  refine r_iadd (pc := 418) (x := i) (y := 2) dL_law_418 ?_
  refine r_xald (pc := 419) (ξ := ξ) (i := (i + 2)) (x := x2) rfl dL_law_419 ⟨by omega, by omega, by omega⟩ e2 ?_
  refine r_callV (μ2 := mX12_move) (pc := 420) (as := [.int (zI x1), .int (zI x2)]) (st := [.int (zI (fMove a x1 x2))]) rfl s0_81 ml_L_50 im_X12_move se_X12_move okX12_move ⟨Nat.le_of_ble_eq_true rfl, Nat.le_of_ble_eq_true rfl⟩ dL_law_420 (Nat.le_of_ble_eq_true rfl) rfl (Nat.le_of_ble_eq_true rfl) (Nat.le_of_ble_eq_true rfl) (Nat.le_of_ble_eq_true rfl) (zCC.mono (mMove W (M.hi f1) r1 r2 (K := (fun x y => x = (fMove a x1 x2) ∧ MR (aMove a x1 x2) y ∧ zLo81 h1 y)) (fun h' c f => ⟨rfl, c, f⟩)) ?_)
  rintro r S' h2 ⟨rfl, q2, hr2, rfl, M2, f2⟩
  subst hr2
  show RR (mL ξ) 108 32136 423 [some (.ref 1300), some (.ref 0), some (.ref 81), some (.int (zI i))] [.int (zI (fMove a x1 x2)), .int (zI (fMove a x1 x2))] zS0 h2 (zQb zS0 fun b _ => b = true)
  refine q_icmp (pc := 423) (x := (fMove a x1 x2)) (tgt := 1421) dL_law_423 (by decide) ?_
  exact hG _ _ (wMove W) (C1.lo f2) M2
set_option maxRecDepth 100000 in
set_option maxHeartbeats 4000000 in
theorem lc_clear {ξ : Nat × (Nat → Int)} {a h : zMm} {i : Int}  (W : WF a) (C : CR a h) (M : MR a h) (hi : 0 ≤ i ∧ i + 7 ≤ (ξ.1 : Int) ∧ ξ.1 ≤ 3584)  (hG : lGo ξ i) : RR (mL ξ) 108 32136 428 [some (.ref 1300), some (.ref 0), some (.ref 81), some (.int (zI i))] [] zS0 h (zQb zS0 fun b _ => b = true) := by
  refine r_aload_n (pc := 428) (a := 0) dL_law_428 rfl ?_
  refine r_callV (μ2 := mX11_clear) (pc := 429) (as := []) (st := []) rfl s0_0 ml_L_51 im_X11_clear se_X11_clear okX11_clear ⟨Nat.le_of_ble_eq_true rfl, Nat.le_of_ble_eq_true rfl⟩ dL_law_429 (Nat.le_of_ble_eq_true rfl) rfl (Nat.le_of_ble_eq_true rfl) (Nat.le_of_ble_eq_true rfl) (Nat.le_of_ble_eq_true rfl) (zCC.mono (cClear C (K := (fun x y => x = (a 7 0) ∧ CR (aClear a) y ∧ zHi81 h y)) (fun h' c f => ⟨rfl, c, f⟩)) ?_)
  rintro r S' h1 ⟨rfl, q1, hr1, rfl, C1, f1⟩
  subst hr1
  show RR (mL ξ) 108 32136 432 [some (.ref 1300), some (.ref 0), some (.ref 81), some (.int (zI i))] [.int (zI (a 7 0))] zS0 h1 (zQb zS0 fun b _ => b = true)
  refine r_aload_n (pc := 432) (a := 81) dL_law_432 rfl ?_
  refine r_callV (μ2 := mX12_clear) (pc := 433) (as := []) (st := [.int (zI (a 7 0))]) rfl s0_81 ml_L_54 im_X12_clear se_X12_clear okX12_clear ⟨Nat.le_of_ble_eq_true rfl, Nat.le_of_ble_eq_true rfl⟩ dL_law_433 (Nat.le_of_ble_eq_true rfl) rfl (Nat.le_of_ble_eq_true rfl) (Nat.le_of_ble_eq_true rfl) (Nat.le_of_ble_eq_true rfl) (zCC.mono (mClear (M.hi f1) (K := (fun x y => x = (a 7 0) ∧ MR (aClear a) y ∧ zLo81 h1 y)) (fun h' c f => ⟨rfl, c, f⟩)) ?_)
  rintro r S' h2 ⟨rfl, q2, hr2, rfl, M2, f2⟩
  subst hr2
  show RR (mL ξ) 108 32136 436 [some (.ref 1300), some (.ref 0), some (.ref 81), some (.int (zI i))] [.int (zI (a 7 0)), .int (zI (a 7 0))] zS0 h2 (zQb zS0 fun b _ => b = true)
  refine q_icmp (pc := 436) (x := (a 7 0)) (tgt := 1421) dL_law_436 (by decide) ?_
  exact hG _ _ (wClear W) (C1.lo f2) M2
set_option maxRecDepth 100000 in
set_option maxHeartbeats 4000000 in
theorem lc_moved {ξ : Nat × (Nat → Int)} {a h : zMm} {i : Int} {x1 : Int} {x2 : Int} (W : WF a) (C : CR a h) (M : MR a h) (hi : 0 ≤ i ∧ i + 7 ≤ (ξ.1 : Int) ∧ ξ.1 ≤ 3584) (e1 : ξ.2 (i + 1).toNat = x1) (r1 : zR x1) (e2 : ξ.2 (i + 2).toNat = x2) (r2 : zR x2) (hG : lGo ξ i) : RR (mL ξ) 108 32136 441 [some (.ref 1300), some (.ref 0), some (.ref 81), some (.int (zI i))] [] zS0 h (zQb zS0 fun b _ => b = true) := by
  refine r_aload_n (pc := 441) (a := 0) dL_law_441 rfl ?_
  refine r_aload_n (pc := 442) (a := 1300) dL_law_442 rfl ?_
  refine r_iload_n (pc := 443) (x := i) dL_law_443 rfl ?_
  refine r_iconst (pc := 444) dL_law_444 ?_
  refine r_iadd (pc := 445) (x := i) (y := 1) dL_law_445 ?_
  refine r_xald (pc := 446) (ξ := ξ) (i := (i + 1)) (x := x1) rfl dL_law_446 ⟨by omega, by omega, by omega⟩ e1 ?_
  refine r_aload_n (pc := 447) (a := 1300) dL_law_447 rfl ?_
  refine r_iload_n (pc := 448) (x := i) dL_law_448 rfl ?_
  refine r_iconst (pc := 449) dL_law_449 ?_
  refine r_iadd (pc := 450) (x := i) (y := 2) dL_law_450 ?_
  refine r_xald (pc := 451) (ξ := ξ) (i := (i + 2)) (x := x2) rfl dL_law_451 ⟨by omega, by omega, by omega⟩ e2 ?_
  refine r_callV (μ2 := mX11_moved) (pc := 452) (as := [.int (zI x1), .int (zI x2)]) (st := []) rfl s0_0 ml_L_55 im_X11_moved se_X11_moved okX11_moved ⟨Nat.le_of_ble_eq_true rfl, Nat.le_of_ble_eq_true rfl⟩ dL_law_452 (Nat.le_of_ble_eq_true rfl) rfl (Nat.le_of_ble_eq_true rfl) (Nat.le_of_ble_eq_true rfl) (Nat.le_of_ble_eq_true rfl) (zCC.mono (cMoved W C r1 r2 (K := (fun x y => x = (fMoved a x1 x2) ∧ CR a y ∧ zHi81 h y)) ⟨rfl, C, fun _ _ => rfl⟩) ?_)
  rintro r S' h1 ⟨rfl, q1, hr1, rfl, C1, f1⟩
  subst hr1
  show RR (mL ξ) 108 32136 455 [some (.ref 1300), some (.ref 0), some (.ref 81), some (.int (zI i))] [.int (zI (fMoved a x1 x2))] zS0 h1 (zQb zS0 fun b _ => b = true)
  refine r_aload_n (pc := 455) (a := 81) dL_law_455 rfl ?_
  refine r_aload_n (pc := 456) (a := 1300) dL_law_456 rfl ?_
  refine r_iload_n (pc := 457) (x := i) dL_law_457 rfl ?_
  refine r_iconst (pc := 458) dL_law_458 ?_
  refine r_iadd (pc := 459) (x := i) (y := 1) dL_law_459 ?_
  refine r_xald (pc := 460) (ξ := ξ) (i := (i + 1)) (x := x1) rfl dL_law_460 ⟨by omega, by omega, by omega⟩ e1 ?_
  refine r_aload_n (pc := 461) (a := 1300) dL_law_461 rfl ?_
  refine r_iload_n (pc := 462) (x := i) dL_law_462 rfl ?_
  refine r_iconst (pc := 463) dL_law_463 ?_
  refine r_iadd (pc := 464) (x := i) (y := 2) dL_law_464 ?_
  refine r_xald (pc := 465) (ξ := ξ) (i := (i + 2)) (x := x2) rfl dL_law_465 ⟨by omega, by omega, by omega⟩ e2 ?_
  refine r_callV (μ2 := mX12_moved) (pc := 466) (as := [.int (zI x1), .int (zI x2)]) (st := [.int (zI (fMoved a x1 x2))]) rfl s0_81 ml_L_58 im_X12_moved se_X12_moved okX12_moved ⟨Nat.le_of_ble_eq_true rfl, Nat.le_of_ble_eq_true rfl⟩ dL_law_466 (Nat.le_of_ble_eq_true rfl) rfl (Nat.le_of_ble_eq_true rfl) (Nat.le_of_ble_eq_true rfl) (Nat.le_of_ble_eq_true rfl) (zCC.mono (mMoved W (M.hi f1) r1 r2 (K := (fun x y => x = (fMoved a x1 x2) ∧ MR a y ∧ zLo81 h1 y)) ⟨rfl, (M.hi f1), fun _ _ => rfl⟩) ?_)
  rintro r S' h2 ⟨rfl, q2, hr2, rfl, M2, f2⟩
  subst hr2
  show RR (mL ξ) 108 32136 469 [some (.ref 1300), some (.ref 0), some (.ref 81), some (.int (zI i))] [.int (zI (fMoved a x1 x2)), .int (zI (fMoved a x1 x2))] zS0 h2 (zQb zS0 fun b _ => b = true)
  refine q_icmp (pc := 469) (x := (fMoved a x1 x2)) (tgt := 1421) dL_law_469 (by decide) ?_
  exact hG _ _ W (C1.lo f2) M2
set_option maxRecDepth 100000 in
set_option maxHeartbeats 4000000 in
theorem lc_run {ξ : Nat × (Nat → Int)} {a h : zMm} {i : Int} {x1 : Int} {x2 : Int} (W : WF a) (C : CR a h) (M : MR a h) (hi : 0 ≤ i ∧ i + 7 ≤ (ξ.1 : Int) ∧ ξ.1 ≤ 3584) (e1 : ξ.2 (i + 1).toNat = x1) (r1 : zR x1) (e2 : ξ.2 (i + 2).toNat = x2) (r2 : zR x2) (hG : lGo ξ i) : RR (mL ξ) 108 32136 474 [some (.ref 1300), some (.ref 0), some (.ref 81), some (.int (zI i))] [] zS0 h (zQb zS0 fun b _ => b = true) := by
  refine r_aload_n (pc := 474) (a := 0) dL_law_474 rfl ?_
  refine r_aload_n (pc := 475) (a := 1300) dL_law_475 rfl ?_
  refine r_iload_n (pc := 476) (x := i) dL_law_476 rfl ?_
  refine r_iconst (pc := 477) dL_law_477 ?_
  refine r_iadd (pc := 478) (x := i) (y := 1) dL_law_478 ?_
  refine r_xald (pc := 479) (ξ := ξ) (i := (i + 1)) (x := x1) rfl dL_law_479 ⟨by omega, by omega, by omega⟩ e1 ?_
  refine r_aload_n (pc := 480) (a := 1300) dL_law_480 rfl ?_
  refine r_iload_n (pc := 481) (x := i) dL_law_481 rfl ?_
  refine r_iconst (pc := 482) dL_law_482 ?_
  refine r_iadd (pc := 483) (x := i) (y := 2) dL_law_483 ?_
  refine r_xald (pc := 484) (ξ := ξ) (i := (i + 2)) (x := x2) rfl dL_law_484 ⟨by omega, by omega, by omega⟩ e2 ?_
  refine r_callV (μ2 := mX11_run) (pc := 485) (as := [.int (zI x1), .int (zI x2)]) (st := []) rfl s0_0 ml_L_59 im_X11_run se_X11_run okX11_run ⟨Nat.le_of_ble_eq_true rfl, Nat.le_of_ble_eq_true rfl⟩ dL_law_485 (Nat.le_of_ble_eq_true rfl) rfl (Nat.le_of_ble_eq_true rfl) (Nat.le_of_ble_eq_true rfl) (Nat.le_of_ble_eq_true rfl) (zCC.mono (cRun W C r1 r2 (K := (fun x y => x = (fRun a x1 x2) ∧ CR a y ∧ zHi81 h y)) (fun h' c f => ⟨rfl, c, f⟩)) ?_)
  rintro r S' h1 ⟨rfl, q1, hr1, rfl, C1, f1⟩
  subst hr1
  show RR (mL ξ) 108 32136 488 [some (.ref 1300), some (.ref 0), some (.ref 81), some (.int (zI i))] [.int (zI (fRun a x1 x2))] zS0 h1 (zQb zS0 fun b _ => b = true)
  refine r_aload_n (pc := 488) (a := 81) dL_law_488 rfl ?_
  refine r_aload_n (pc := 489) (a := 1300) dL_law_489 rfl ?_
  refine r_iload_n (pc := 490) (x := i) dL_law_490 rfl ?_
  refine r_iconst (pc := 491) dL_law_491 ?_
  refine r_iadd (pc := 492) (x := i) (y := 1) dL_law_492 ?_
  refine r_xald (pc := 493) (ξ := ξ) (i := (i + 1)) (x := x1) rfl dL_law_493 ⟨by omega, by omega, by omega⟩ e1 ?_
  refine r_aload_n (pc := 494) (a := 1300) dL_law_494 rfl ?_
  refine r_iload_n (pc := 495) (x := i) dL_law_495 rfl ?_
  refine r_iconst (pc := 496) dL_law_496 ?_
  refine r_iadd (pc := 497) (x := i) (y := 2) dL_law_497 ?_
  refine r_xald (pc := 498) (ξ := ξ) (i := (i + 2)) (x := x2) rfl dL_law_498 ⟨by omega, by omega, by omega⟩ e2 ?_
  refine r_callV (μ2 := mX12_run) (pc := 499) (as := [.int (zI x1), .int (zI x2)]) (st := [.int (zI (fRun a x1 x2))]) rfl s0_81 ml_L_62 im_X12_run se_X12_run okX12_run ⟨Nat.le_of_ble_eq_true rfl, Nat.le_of_ble_eq_true rfl⟩ dL_law_499 (Nat.le_of_ble_eq_true rfl) rfl (Nat.le_of_ble_eq_true rfl) (Nat.le_of_ble_eq_true rfl) (Nat.le_of_ble_eq_true rfl) (zCC.mono (mRun W (M.hi f1) r1 r2 (K := (fun x y => x = (fRun a x1 x2) ∧ MR a y ∧ zLo81 h1 y)) (fun h' c f => ⟨rfl, c, f⟩)) ?_)
  rintro r S' h2 ⟨rfl, q2, hr2, rfl, M2, f2⟩
  subst hr2
  show RR (mL ξ) 108 32136 502 [some (.ref 1300), some (.ref 0), some (.ref 81), some (.int (zI i))] [.int (zI (fRun a x1 x2)), .int (zI (fRun a x1 x2))] zS0 h2 (zQb zS0 fun b _ => b = true)
  refine q_icmp (pc := 502) (x := (fRun a x1 x2)) (tgt := 1421) dL_law_502 (by decide) ?_
  exact hG _ _ W (C1.lo f2) M2
set_option maxRecDepth 100000 in
set_option maxHeartbeats 4000000 in
theorem lc_mow {ξ : Nat × (Nat → Int)} {a h : zMm} {i : Int} {x1 : Int} (W : WF a) (C : CR a h) (M : MR a h) (hi : 0 ≤ i ∧ i + 7 ≤ (ξ.1 : Int) ∧ ξ.1 ≤ 3584) (e1 : ξ.2 (i + 1).toNat = x1) (r1 : zR x1) (hG : lGo ξ i) : RR (mL ξ) 108 32136 507 [some (.ref 1300), some (.ref 0), some (.ref 81), some (.int (zI i))] [] zS0 h (zQb zS0 fun b _ => b = true) := by
  refine r_aload_n (pc := 507) (a := 0) dL_law_507 rfl ?_
  refine r_aload_n (pc := 508) (a := 1300) dL_law_508 rfl ?_
  refine r_iload_n (pc := 509) (x := i) dL_law_509 rfl ?_
  refine r_iconst (pc := 510) dL_law_510 ?_
  refine r_iadd (pc := 511) (x := i) (y := 1) dL_law_511 ?_
  refine r_xald (pc := 512) (ξ := ξ) (i := (i + 1)) (x := x1) rfl dL_law_512 ⟨by omega, by omega, by omega⟩ e1 ?_
  refine r_callV (μ2 := mX11_mow) (pc := 513) (as := [.int (zI x1)]) (st := []) rfl s0_0 ml_L_63 im_X11_mow se_X11_mow okX11_mow ⟨Nat.le_of_ble_eq_true rfl, Nat.le_of_ble_eq_true rfl⟩ dL_law_513 (Nat.le_of_ble_eq_true rfl) rfl (Nat.le_of_ble_eq_true rfl) (Nat.le_of_ble_eq_true rfl) (Nat.le_of_ble_eq_true rfl) (zCC.mono (cMow W C r1 (K := (fun x y => x = (fMow a x1) ∧ CR (aMow a x1) y ∧ zHi81 h y)) (fun h' c f => ⟨rfl, c, f⟩)) ?_)
  rintro r S' h1 ⟨rfl, q1, hr1, rfl, C1, f1⟩
  subst hr1
  show RR (mL ξ) 108 32136 516 [some (.ref 1300), some (.ref 0), some (.ref 81), some (.int (zI i))] [.int (zI (fMow a x1))] zS0 h1 (zQb zS0 fun b _ => b = true)
  refine r_aload_n (pc := 516) (a := 81) dL_law_516 rfl ?_
  refine r_aload_n (pc := 517) (a := 1300) dL_law_517 rfl ?_
  refine r_iload_n (pc := 518) (x := i) dL_law_518 rfl ?_
  refine r_iconst (pc := 519) dL_law_519 ?_
  refine r_iadd (pc := 520) (x := i) (y := 1) dL_law_520 ?_
  refine r_xald (pc := 521) (ξ := ξ) (i := (i + 1)) (x := x1) rfl dL_law_521 ⟨by omega, by omega, by omega⟩ e1 ?_
  refine r_callV (μ2 := mX12_mow) (pc := 522) (as := [.int (zI x1)]) (st := [.int (zI (fMow a x1))]) rfl s0_81 ml_L_66 im_X12_mow se_X12_mow okX12_mow ⟨Nat.le_of_ble_eq_true rfl, Nat.le_of_ble_eq_true rfl⟩ dL_law_522 (Nat.le_of_ble_eq_true rfl) rfl (Nat.le_of_ble_eq_true rfl) (Nat.le_of_ble_eq_true rfl) (Nat.le_of_ble_eq_true rfl) (zCC.mono (mMow W (M.hi f1) r1 (K := (fun x y => x = (fMow a x1) ∧ MR (aMow a x1) y ∧ zLo81 h1 y)) (fun h' c f => ⟨rfl, c, f⟩)) ?_)
  rintro r S' h2 ⟨rfl, q2, hr2, rfl, M2, f2⟩
  subst hr2
  show RR (mL ξ) 108 32136 525 [some (.ref 1300), some (.ref 0), some (.ref 81), some (.int (zI i))] [.int (zI (fMow a x1)), .int (zI (fMow a x1))] zS0 h2 (zQb zS0 fun b _ => b = true)
  refine q_icmp (pc := 525) (x := (fMow a x1)) (tgt := 1421) dL_law_525 (by decide) ?_
  exact hG _ _ (wMow W) (C1.lo f2) M2
set_option maxRecDepth 100000 in
set_option maxHeartbeats 4000000 in
theorem lc_cord {ξ : Nat × (Nat → Int)} {a h : zMm} {i : Int} {x1 : Int} {x2 : Int} (W : WF a) (C : CR a h) (M : MR a h) (hi : 0 ≤ i ∧ i + 7 ≤ (ξ.1 : Int) ∧ ξ.1 ≤ 3584) (e1 : ξ.2 (i + 1).toNat = x1) (r1 : zR x1) (e2 : ξ.2 (i + 2).toNat = x2) (r2 : zR x2) (hG : lGo ξ i) : RR (mL ξ) 108 32136 530 [some (.ref 1300), some (.ref 0), some (.ref 81), some (.int (zI i))] [] zS0 h (zQb zS0 fun b _ => b = true) := by
  refine r_aload_n (pc := 530) (a := 0) dL_law_530 rfl ?_
  refine r_aload_n (pc := 531) (a := 1300) dL_law_531 rfl ?_
  refine r_iload_n (pc := 532) (x := i) dL_law_532 rfl ?_
  refine r_iconst (pc := 533) dL_law_533 ?_
  refine r_iadd (pc := 534) (x := i) (y := 1) dL_law_534 ?_
  refine r_xald (pc := 535) (ξ := ξ) (i := (i + 1)) (x := x1) rfl dL_law_535 ⟨by omega, by omega, by omega⟩ e1 ?_
  refine r_aload_n (pc := 536) (a := 1300) dL_law_536 rfl ?_
  refine r_iload_n (pc := 537) (x := i) dL_law_537 rfl ?_
  refine r_iconst (pc := 538) dL_law_538 ?_
  refine r_iadd (pc := 539) (x := i) (y := 2) dL_law_539 ?_
  refine r_xald (pc := 540) (ξ := ξ) (i := (i + 2)) (x := x2) rfl dL_law_540 ⟨by omega, by omega, by omega⟩ e2 ?_
  refine r_callV (μ2 := mX11_cord) (pc := 541) (as := [.int (zI x1), .int (zI x2)]) (st := []) rfl s0_0 ml_L_67 im_X11_cord se_X11_cord okX11_cord ⟨Nat.le_of_ble_eq_true rfl, Nat.le_of_ble_eq_true rfl⟩ dL_law_541 (Nat.le_of_ble_eq_true rfl) rfl (Nat.le_of_ble_eq_true rfl) (Nat.le_of_ble_eq_true rfl) (Nat.le_of_ble_eq_true rfl) (zCC.mono (cCord W C r1 r2 (K := (fun x y => x = (fCord a x1 x2) ∧ CR a y ∧ zHi81 h y)) (fun h' c f => ⟨rfl, c, f⟩)) ?_)
  rintro r S' h1 ⟨rfl, q1, hr1, rfl, C1, f1⟩
  subst hr1
  show RR (mL ξ) 108 32136 544 [some (.ref 1300), some (.ref 0), some (.ref 81), some (.int (zI i))] [.long (zJ (fCord a x1 x2))] zS0 h1 (zQb zS0 fun b _ => b = true)
  refine r_aload_n (pc := 544) (a := 81) dL_law_544 rfl ?_
  refine r_aload_n (pc := 545) (a := 1300) dL_law_545 rfl ?_
  refine r_iload_n (pc := 546) (x := i) dL_law_546 rfl ?_
  refine r_iconst (pc := 547) dL_law_547 ?_
  refine r_iadd (pc := 548) (x := i) (y := 1) dL_law_548 ?_
  refine r_xald (pc := 549) (ξ := ξ) (i := (i + 1)) (x := x1) rfl dL_law_549 ⟨by omega, by omega, by omega⟩ e1 ?_
  refine r_aload_n (pc := 550) (a := 1300) dL_law_550 rfl ?_
  refine r_iload_n (pc := 551) (x := i) dL_law_551 rfl ?_
  refine r_iconst (pc := 552) dL_law_552 ?_
  refine r_iadd (pc := 553) (x := i) (y := 2) dL_law_553 ?_
  refine r_xald (pc := 554) (ξ := ξ) (i := (i + 2)) (x := x2) rfl dL_law_554 ⟨by omega, by omega, by omega⟩ e2 ?_
  refine r_callV (μ2 := mX12_cord) (pc := 555) (as := [.int (zI x1), .int (zI x2)]) (st := [.long (zJ (fCord a x1 x2))]) rfl s0_81 ml_L_71 im_X12_cord se_X12_cord okX12_cord ⟨Nat.le_of_ble_eq_true rfl, Nat.le_of_ble_eq_true rfl⟩ dL_law_555 (Nat.le_of_ble_eq_true rfl) rfl (Nat.le_of_ble_eq_true rfl) (Nat.le_of_ble_eq_true rfl) (Nat.le_of_ble_eq_true rfl) (zCC.mono (mCord W (M.hi f1) r1 r2 (K := (fun x y => x = (fCord a x1 x2) ∧ MR a y ∧ zLo81 h1 y)) (fun h' c f => ⟨rfl, c, f⟩)) ?_)
  rintro r S' h2 ⟨rfl, q2, hr2, rfl, M2, f2⟩
  subst hr2
  show RR (mL ξ) 108 32136 558 [some (.ref 1300), some (.ref 0), some (.ref 81), some (.int (zI i))] [.long (zJ (fCord a x1 x2)), .long (zJ (fCord a x1 x2))] zS0 h2 (zQb zS0 fun b _ => b = true)
  refine q_lcmp (pc := 558) (x := (fCord a x1 x2)) dL_law_558 ?_
  refine r_if_eq (pc := 559) (x := 0) (tgt := 1421) dL_law_559 (by decide) (by decide) (fun _ => ?_) (fun c => absurd rfl c)
  exact hG _ _ W (C1.lo f2) M2
set_option maxRecDepth 100000 in
set_option maxHeartbeats 4000000 in
theorem lc_trips {ξ : Nat × (Nat → Int)} {a h : zMm} {i : Int} {x1 : Int} (W : WF a) (C : CR a h) (M : MR a h) (hi : 0 ≤ i ∧ i + 7 ≤ (ξ.1 : Int) ∧ ξ.1 ≤ 3584) (e1 : ξ.2 (i + 1).toNat = x1) (r1 : zR x1) (hG : lGo ξ i) : RR (mL ξ) 108 32136 564 [some (.ref 1300), some (.ref 0), some (.ref 81), some (.int (zI i))] [] zS0 h (zQb zS0 fun b _ => b = true) := by
  refine r_aload_n (pc := 564) (a := 0) dL_law_564 rfl ?_
  refine r_aload_n (pc := 565) (a := 1300) dL_law_565 rfl ?_
  refine r_iload_n (pc := 566) (x := i) dL_law_566 rfl ?_
  refine r_iconst (pc := 567) dL_law_567 ?_
  refine r_iadd (pc := 568) (x := i) (y := 1) dL_law_568 ?_
  refine r_xald (pc := 569) (ξ := ξ) (i := (i + 1)) (x := x1) rfl dL_law_569 ⟨by omega, by omega, by omega⟩ e1 ?_
  refine r_callV (μ2 := mX11_trips) (pc := 570) (as := [.int (zI x1)]) (st := []) rfl s0_0 ml_L_72 im_X11_trips se_X11_trips okX11_trips ⟨Nat.le_of_ble_eq_true rfl, Nat.le_of_ble_eq_true rfl⟩ dL_law_570 (Nat.le_of_ble_eq_true rfl) rfl (Nat.le_of_ble_eq_true rfl) (Nat.le_of_ble_eq_true rfl) (Nat.le_of_ble_eq_true rfl) (zCC.mono (cTrips W C r1 (K := (fun x y => x = (fTrips a x1) ∧ CR a y ∧ zHi81 h y)) (fun h' c f => ⟨rfl, c, f⟩)) ?_)
  rintro r S' h1 ⟨rfl, q1, hr1, rfl, C1, f1⟩
  subst hr1
  show RR (mL ξ) 108 32136 573 [some (.ref 1300), some (.ref 0), some (.ref 81), some (.int (zI i))] [.int (zI (fTrips a x1))] zS0 h1 (zQb zS0 fun b _ => b = true)
  refine r_aload_n (pc := 573) (a := 81) dL_law_573 rfl ?_
  refine r_aload_n (pc := 574) (a := 1300) dL_law_574 rfl ?_
  refine r_iload_n (pc := 575) (x := i) dL_law_575 rfl ?_
  refine r_iconst (pc := 576) dL_law_576 ?_
  refine r_iadd (pc := 577) (x := i) (y := 1) dL_law_577 ?_
  refine r_xald (pc := 578) (ξ := ξ) (i := (i + 1)) (x := x1) rfl dL_law_578 ⟨by omega, by omega, by omega⟩ e1 ?_
  refine r_callV (μ2 := mX12_trips) (pc := 579) (as := [.int (zI x1)]) (st := [.int (zI (fTrips a x1))]) rfl s0_81 ml_L_75 im_X12_trips se_X12_trips okX12_trips ⟨Nat.le_of_ble_eq_true rfl, Nat.le_of_ble_eq_true rfl⟩ dL_law_579 (Nat.le_of_ble_eq_true rfl) rfl (Nat.le_of_ble_eq_true rfl) (Nat.le_of_ble_eq_true rfl) (Nat.le_of_ble_eq_true rfl) (zCC.mono (mTrips W (M.hi f1) r1 (K := (fun x y => x = (fTrips a x1) ∧ MR a y ∧ zLo81 h1 y)) (fun h' c f => ⟨rfl, c, f⟩)) ?_)
  rintro r S' h2 ⟨rfl, q2, hr2, rfl, M2, f2⟩
  subst hr2
  show RR (mL ξ) 108 32136 582 [some (.ref 1300), some (.ref 0), some (.ref 81), some (.int (zI i))] [.int (zI (fTrips a x1)), .int (zI (fTrips a x1))] zS0 h2 (zQb zS0 fun b _ => b = true)
  refine q_icmp (pc := 582) (x := (fTrips a x1)) (tgt := 1421) dL_law_582 (by decide) ?_
  exact hG _ _ W (C1.lo f2) M2
set_option maxRecDepth 100000 in
set_option maxHeartbeats 4000000 in
theorem lc_begin {ξ : Nat × (Nat → Int)} {a h : zMm} {i : Int}  (W : WF a) (C : CR a h) (M : MR a h) (hi : 0 ≤ i ∧ i + 7 ≤ (ξ.1 : Int) ∧ ξ.1 ≤ 3584)  (hG : lGo ξ i) : RR (mL ξ) 108 32136 587 [some (.ref 1300), some (.ref 0), some (.ref 81), some (.int (zI i))] [] zS0 h (zQb zS0 fun b _ => b = true) := by
  refine r_aload_n (pc := 587) (a := 0) dL_law_587 rfl ?_
  refine r_callV (μ2 := mX11_begin) (pc := 588) (as := []) (st := []) rfl s0_0 ml_L_76 im_X11_begin se_X11_begin okX11_begin ⟨Nat.le_of_ble_eq_true rfl, Nat.le_of_ble_eq_true rfl⟩ dL_law_588 (Nat.le_of_ble_eq_true rfl) rfl (Nat.le_of_ble_eq_true rfl) (Nat.le_of_ble_eq_true rfl) (Nat.le_of_ble_eq_true rfl) (zCC.mono (cBegin W C (K := (fun x y => x = (fBegin a) ∧ CR a y ∧ zHi81 h y)) (fun h' c f => ⟨rfl, c, f⟩)) ?_)
  rintro r S' h1 ⟨rfl, q1, hr1, rfl, C1, f1⟩
  subst hr1
  show RR (mL ξ) 108 32136 591 [some (.ref 1300), some (.ref 0), some (.ref 81), some (.int (zI i))] [.int (zI (fBegin a))] zS0 h1 (zQb zS0 fun b _ => b = true)
  refine r_aload_n (pc := 591) (a := 81) dL_law_591 rfl ?_
  refine r_callV (μ2 := mX12_begin) (pc := 592) (as := []) (st := [.int (zI (fBegin a))]) rfl s0_81 ml_L_79 im_X12_begin se_X12_begin okX12_begin ⟨Nat.le_of_ble_eq_true rfl, Nat.le_of_ble_eq_true rfl⟩ dL_law_592 (Nat.le_of_ble_eq_true rfl) rfl (Nat.le_of_ble_eq_true rfl) (Nat.le_of_ble_eq_true rfl) (Nat.le_of_ble_eq_true rfl) (zCC.mono (mBegin W (M.hi f1) (K := (fun x y => x = (fBegin a) ∧ MR a y ∧ zLo81 h1 y)) (fun h' c f => ⟨rfl, c, f⟩)) ?_)
  rintro r S' h2 ⟨rfl, q2, hr2, rfl, M2, f2⟩
  subst hr2
  show RR (mL ξ) 108 32136 595 [some (.ref 1300), some (.ref 0), some (.ref 81), some (.int (zI i))] [.int (zI (fBegin a)), .int (zI (fBegin a))] zS0 h2 (zQb zS0 fun b _ => b = true)
  refine q_icmp (pc := 595) (x := (fBegin a)) (tgt := 1421) dL_law_595 (by decide) ?_
  exact hG _ _ W (C1.lo f2) M2
set_option maxRecDepth 100000 in
set_option maxHeartbeats 4000000 in
theorem lc_need {ξ : Nat × (Nat → Int)} {a h : zMm} {i : Int} {x1 : Int} (W : WF a) (C : CR a h) (M : MR a h) (hi : 0 ≤ i ∧ i + 7 ≤ (ξ.1 : Int) ∧ ξ.1 ≤ 3584) (e1 : ξ.2 (i + 1).toNat = x1) (r1 : zR x1) (hG : lGo ξ i) : RR (mL ξ) 108 32136 600 [some (.ref 1300), some (.ref 0), some (.ref 81), some (.int (zI i))] [] zS0 h (zQb zS0 fun b _ => b = true) := by
  refine r_aload_n (pc := 600) (a := 0) dL_law_600 rfl ?_
  refine r_aload_n (pc := 601) (a := 1300) dL_law_601 rfl ?_
  refine r_iload_n (pc := 602) (x := i) dL_law_602 rfl ?_
  refine r_iconst (pc := 603) dL_law_603 ?_
  refine r_iadd (pc := 604) (x := i) (y := 1) dL_law_604 ?_
  refine r_xald (pc := 605) (ξ := ξ) (i := (i + 1)) (x := x1) rfl dL_law_605 ⟨by omega, by omega, by omega⟩ e1 ?_
  refine r_callV (μ2 := mX11_need) (pc := 606) (as := [.int (zI x1)]) (st := []) rfl s0_0 ml_L_80 im_X11_need se_X11_need okX11_need ⟨Nat.le_of_ble_eq_true rfl, Nat.le_of_ble_eq_true rfl⟩ dL_law_606 (Nat.le_of_ble_eq_true rfl) rfl (Nat.le_of_ble_eq_true rfl) (Nat.le_of_ble_eq_true rfl) (Nat.le_of_ble_eq_true rfl) (zCC.mono (cNeed W C r1 (K := (fun x y => x = (fNeed a x1) ∧ CR a y ∧ zHi81 h y)) (fun h' c f => ⟨rfl, c, f⟩)) ?_)
  rintro r S' h1 ⟨rfl, q1, hr1, rfl, C1, f1⟩
  subst hr1
  show RR (mL ξ) 108 32136 609 [some (.ref 1300), some (.ref 0), some (.ref 81), some (.int (zI i))] [.int (zI (fNeed a x1))] zS0 h1 (zQb zS0 fun b _ => b = true)
  refine r_aload_n (pc := 609) (a := 81) dL_law_609 rfl ?_
  refine r_aload_n (pc := 610) (a := 1300) dL_law_610 rfl ?_
  refine r_iload_n (pc := 611) (x := i) dL_law_611 rfl ?_
  refine r_iconst (pc := 612) dL_law_612 ?_
  refine r_iadd (pc := 613) (x := i) (y := 1) dL_law_613 ?_
  refine r_xald (pc := 614) (ξ := ξ) (i := (i + 1)) (x := x1) rfl dL_law_614 ⟨by omega, by omega, by omega⟩ e1 ?_
  refine r_callV (μ2 := mX12_need) (pc := 615) (as := [.int (zI x1)]) (st := [.int (zI (fNeed a x1))]) rfl s0_81 ml_L_83 im_X12_need se_X12_need okX12_need ⟨Nat.le_of_ble_eq_true rfl, Nat.le_of_ble_eq_true rfl⟩ dL_law_615 (Nat.le_of_ble_eq_true rfl) rfl (Nat.le_of_ble_eq_true rfl) (Nat.le_of_ble_eq_true rfl) (Nat.le_of_ble_eq_true rfl) (zCC.mono (mNeed W (M.hi f1) r1 (K := (fun x y => x = (fNeed a x1) ∧ MR a y ∧ zLo81 h1 y)) (fun h' c f => ⟨rfl, c, f⟩)) ?_)
  rintro r S' h2 ⟨rfl, q2, hr2, rfl, M2, f2⟩
  subst hr2
  show RR (mL ξ) 108 32136 618 [some (.ref 1300), some (.ref 0), some (.ref 81), some (.int (zI i))] [.int (zI (fNeed a x1)), .int (zI (fNeed a x1))] zS0 h2 (zQb zS0 fun b _ => b = true)
  refine q_icmp (pc := 618) (x := (fNeed a x1)) (tgt := 1421) dL_law_618 (by decide) ?_
  exact hG _ _ W (C1.lo f2) M2
set_option maxRecDepth 100000 in
set_option maxHeartbeats 4000000 in
theorem lc_least {ξ : Nat × (Nat → Int)} {a h : zMm} {i : Int} {x1 : Int} (W : WF a) (C : CR a h) (M : MR a h) (hi : 0 ≤ i ∧ i + 7 ≤ (ξ.1 : Int) ∧ ξ.1 ≤ 3584) (e1 : ξ.2 (i + 1).toNat = x1) (r1 : zR x1) (hG : lGo ξ i) : RR (mL ξ) 108 32136 623 [some (.ref 1300), some (.ref 0), some (.ref 81), some (.int (zI i))] [] zS0 h (zQb zS0 fun b _ => b = true) := by
  refine r_aload_n (pc := 623) (a := 0) dL_law_623 rfl ?_
  refine r_aload_n (pc := 624) (a := 1300) dL_law_624 rfl ?_
  refine r_iload_n (pc := 625) (x := i) dL_law_625 rfl ?_
  refine r_iconst (pc := 626) dL_law_626 ?_
  refine r_iadd (pc := 627) (x := i) (y := 1) dL_law_627 ?_
  refine r_xald (pc := 628) (ξ := ξ) (i := (i + 1)) (x := x1) rfl dL_law_628 ⟨by omega, by omega, by omega⟩ e1 ?_
  refine r_callV (μ2 := mX11_least) (pc := 629) (as := [.int (zI x1)]) (st := []) rfl s0_0 ml_L_84 im_X11_least se_X11_least okX11_least ⟨Nat.le_of_ble_eq_true rfl, Nat.le_of_ble_eq_true rfl⟩ dL_law_629 (Nat.le_of_ble_eq_true rfl) rfl (Nat.le_of_ble_eq_true rfl) (Nat.le_of_ble_eq_true rfl) (Nat.le_of_ble_eq_true rfl) (zCC.mono (cLeast W C r1 (K := (fun x y => x = (fLeast a x1) ∧ CR a y ∧ zHi81 h y)) (fun h' c f => ⟨rfl, c, f⟩)) ?_)
  rintro r S' h1 ⟨rfl, q1, hr1, rfl, C1, f1⟩
  subst hr1
  show RR (mL ξ) 108 32136 632 [some (.ref 1300), some (.ref 0), some (.ref 81), some (.int (zI i))] [.int (zI (fLeast a x1))] zS0 h1 (zQb zS0 fun b _ => b = true)
  refine r_aload_n (pc := 632) (a := 81) dL_law_632 rfl ?_
  refine r_aload_n (pc := 633) (a := 1300) dL_law_633 rfl ?_
  refine r_iload_n (pc := 634) (x := i) dL_law_634 rfl ?_
  refine r_iconst (pc := 635) dL_law_635 ?_
  refine r_iadd (pc := 636) (x := i) (y := 1) dL_law_636 ?_
  refine r_xald (pc := 637) (ξ := ξ) (i := (i + 1)) (x := x1) rfl dL_law_637 ⟨by omega, by omega, by omega⟩ e1 ?_
  refine r_callV (μ2 := mX12_least) (pc := 638) (as := [.int (zI x1)]) (st := [.int (zI (fLeast a x1))]) rfl s0_81 ml_L_87 im_X12_least se_X12_least okX12_least ⟨Nat.le_of_ble_eq_true rfl, Nat.le_of_ble_eq_true rfl⟩ dL_law_638 (Nat.le_of_ble_eq_true rfl) rfl (Nat.le_of_ble_eq_true rfl) (Nat.le_of_ble_eq_true rfl) (Nat.le_of_ble_eq_true rfl) (zCC.mono (mLeast W (M.hi f1) r1 (K := (fun x y => x = (fLeast a x1) ∧ MR a y ∧ zLo81 h1 y)) (fun h' c f => ⟨rfl, c, f⟩)) ?_)
  rintro r S' h2 ⟨rfl, q2, hr2, rfl, M2, f2⟩
  subst hr2
  show RR (mL ξ) 108 32136 641 [some (.ref 1300), some (.ref 0), some (.ref 81), some (.int (zI i))] [.int (zI (fLeast a x1)), .int (zI (fLeast a x1))] zS0 h2 (zQb zS0 fun b _ => b = true)
  refine q_icmp (pc := 641) (x := (fLeast a x1)) (tgt := 1421) dL_law_641 (by decide) ?_
  exact hG _ _ W (C1.lo f2) M2
set_option maxRecDepth 100000 in
set_option maxHeartbeats 4000000 in
theorem lc_tree {ξ : Nat × (Nat → Int)} {a h : zMm} {i : Int} {x1 : Int} (W : WF a) (C : CR a h) (M : MR a h) (hi : 0 ≤ i ∧ i + 7 ≤ (ξ.1 : Int) ∧ ξ.1 ≤ 3584) (e1 : ξ.2 (i + 1).toNat = x1) (r1 : zR x1) (hG : lGo ξ i) : RR (mL ξ) 108 32136 646 [some (.ref 1300), some (.ref 0), some (.ref 81), some (.int (zI i))] [] zS0 h (zQb zS0 fun b _ => b = true) := by
  refine r_aload_n (pc := 646) (a := 0) dL_law_646 rfl ?_
  refine r_aload_n (pc := 647) (a := 1300) dL_law_647 rfl ?_
  refine r_iload_n (pc := 648) (x := i) dL_law_648 rfl ?_
  refine r_iconst (pc := 649) dL_law_649 ?_
  refine r_iadd (pc := 650) (x := i) (y := 1) dL_law_650 ?_
  refine r_xald (pc := 651) (ξ := ξ) (i := (i + 1)) (x := x1) rfl dL_law_651 ⟨by omega, by omega, by omega⟩ e1 ?_
  refine r_callV (μ2 := mX11_tree) (pc := 652) (as := [.int (zI x1)]) (st := []) rfl s0_0 ml_L_88 im_X11_tree se_X11_tree okX11_tree ⟨Nat.le_of_ble_eq_true rfl, Nat.le_of_ble_eq_true rfl⟩ dL_law_652 (Nat.le_of_ble_eq_true rfl) rfl (Nat.le_of_ble_eq_true rfl) (Nat.le_of_ble_eq_true rfl) (Nat.le_of_ble_eq_true rfl) (zCC.mono (cTree W C r1 (K := (fun x y => x = (fTree a x1) ∧ CR a y ∧ zHi81 h y)) (fun h' c f => ⟨rfl, c, f⟩)) ?_)
  rintro r S' h1 ⟨rfl, q1, hr1, rfl, C1, f1⟩
  subst hr1
  show RR (mL ξ) 108 32136 655 [some (.ref 1300), some (.ref 0), some (.ref 81), some (.int (zI i))] [.int (zI (fTree a x1))] zS0 h1 (zQb zS0 fun b _ => b = true)
  refine r_aload_n (pc := 655) (a := 81) dL_law_655 rfl ?_
  refine r_aload_n (pc := 656) (a := 1300) dL_law_656 rfl ?_
  refine r_iload_n (pc := 657) (x := i) dL_law_657 rfl ?_
  refine r_iconst (pc := 658) dL_law_658 ?_
  refine r_iadd (pc := 659) (x := i) (y := 1) dL_law_659 ?_
  refine r_xald (pc := 660) (ξ := ξ) (i := (i + 1)) (x := x1) rfl dL_law_660 ⟨by omega, by omega, by omega⟩ e1 ?_
  refine r_callV (μ2 := mX12_tree) (pc := 661) (as := [.int (zI x1)]) (st := [.int (zI (fTree a x1))]) rfl s0_81 ml_L_91 im_X12_tree se_X12_tree okX12_tree ⟨Nat.le_of_ble_eq_true rfl, Nat.le_of_ble_eq_true rfl⟩ dL_law_661 (Nat.le_of_ble_eq_true rfl) rfl (Nat.le_of_ble_eq_true rfl) (Nat.le_of_ble_eq_true rfl) (Nat.le_of_ble_eq_true rfl) (zCC.mono (mTree W (M.hi f1) r1 (K := (fun x y => x = (fTree a x1) ∧ MR a y ∧ zLo81 h1 y)) (fun h' c f => ⟨rfl, c, f⟩)) ?_)
  rintro r S' h2 ⟨rfl, q2, hr2, rfl, M2, f2⟩
  subst hr2
  show RR (mL ξ) 108 32136 664 [some (.ref 1300), some (.ref 0), some (.ref 81), some (.int (zI i))] [.int (zI (fTree a x1)), .int (zI (fTree a x1))] zS0 h2 (zQb zS0 fun b _ => b = true)
  refine q_icmp (pc := 664) (x := (fTree a x1)) (tgt := 1421) dL_law_664 (by decide) ?_
  exact hG _ _ W (C1.lo f2) M2
set_option maxRecDepth 100000 in
set_option maxHeartbeats 4000000 in
theorem lc_dearest {ξ : Nat × (Nat → Int)} {a h : zMm} {i : Int} {x1 : Int} (W : WF a) (C : CR a h) (M : MR a h) (hi : 0 ≤ i ∧ i + 7 ≤ (ξ.1 : Int) ∧ ξ.1 ≤ 3584) (e1 : ξ.2 (i + 1).toNat = x1) (r1 : zR x1) (hG : lGo ξ i) : RR (mL ξ) 108 32136 669 [some (.ref 1300), some (.ref 0), some (.ref 81), some (.int (zI i))] [] zS0 h (zQb zS0 fun b _ => b = true) := by
  refine r_aload_n (pc := 669) (a := 0) dL_law_669 rfl ?_
  refine r_aload_n (pc := 670) (a := 1300) dL_law_670 rfl ?_
  refine r_iload_n (pc := 671) (x := i) dL_law_671 rfl ?_
  refine r_iconst (pc := 672) dL_law_672 ?_
  refine r_iadd (pc := 673) (x := i) (y := 1) dL_law_673 ?_
  refine r_xald (pc := 674) (ξ := ξ) (i := (i + 1)) (x := x1) rfl dL_law_674 ⟨by omega, by omega, by omega⟩ e1 ?_
  refine r_callV (μ2 := mX11_dearest) (pc := 675) (as := [.int (zI x1)]) (st := []) rfl s0_0 ml_L_92 im_X11_dearest se_X11_dearest okX11_dearest ⟨Nat.le_of_ble_eq_true rfl, Nat.le_of_ble_eq_true rfl⟩ dL_law_675 (Nat.le_of_ble_eq_true rfl) rfl (Nat.le_of_ble_eq_true rfl) (Nat.le_of_ble_eq_true rfl) (Nat.le_of_ble_eq_true rfl) (zCC.mono (cDearest W C r1 (K := (fun x y => x = (fDearest a x1) ∧ CR a y ∧ zHi81 h y)) (fun h' c f => ⟨rfl, c, f⟩)) ?_)
  rintro r S' h1 ⟨rfl, q1, hr1, rfl, C1, f1⟩
  subst hr1
  show RR (mL ξ) 108 32136 678 [some (.ref 1300), some (.ref 0), some (.ref 81), some (.int (zI i))] [.int (zI (fDearest a x1))] zS0 h1 (zQb zS0 fun b _ => b = true)
  refine r_aload_n (pc := 678) (a := 81) dL_law_678 rfl ?_
  refine r_aload_n (pc := 679) (a := 1300) dL_law_679 rfl ?_
  refine r_iload_n (pc := 680) (x := i) dL_law_680 rfl ?_
  refine r_iconst (pc := 681) dL_law_681 ?_
  refine r_iadd (pc := 682) (x := i) (y := 1) dL_law_682 ?_
  refine r_xald (pc := 683) (ξ := ξ) (i := (i + 1)) (x := x1) rfl dL_law_683 ⟨by omega, by omega, by omega⟩ e1 ?_
  refine r_callV (μ2 := mX12_dearest) (pc := 684) (as := [.int (zI x1)]) (st := [.int (zI (fDearest a x1))]) rfl s0_81 ml_L_95 im_X12_dearest se_X12_dearest okX12_dearest ⟨Nat.le_of_ble_eq_true rfl, Nat.le_of_ble_eq_true rfl⟩ dL_law_684 (Nat.le_of_ble_eq_true rfl) rfl (Nat.le_of_ble_eq_true rfl) (Nat.le_of_ble_eq_true rfl) (Nat.le_of_ble_eq_true rfl) (zCC.mono (mDearest W (M.hi f1) r1 (K := (fun x y => x = (fDearest a x1) ∧ MR a y ∧ zLo81 h1 y)) (fun h' c f => ⟨rfl, c, f⟩)) ?_)
  rintro r S' h2 ⟨rfl, q2, hr2, rfl, M2, f2⟩
  subst hr2
  show RR (mL ξ) 108 32136 687 [some (.ref 1300), some (.ref 0), some (.ref 81), some (.int (zI i))] [.int (zI (fDearest a x1)), .int (zI (fDearest a x1))] zS0 h2 (zQb zS0 fun b _ => b = true)
  refine q_icmp (pc := 687) (x := (fDearest a x1)) (tgt := 1421) dL_law_687 (by decide) ?_
  exact hG _ _ W (C1.lo f2) M2
set_option maxRecDepth 100000 in
set_option maxHeartbeats 4000000 in
theorem lc_adopt {ξ : Nat × (Nat → Int)} {a h : zMm} {i : Int}  (W : WF a) (C : CR a h) (M : MR a h) (hi : 0 ≤ i ∧ i + 7 ≤ (ξ.1 : Int) ∧ ξ.1 ≤ 3584)  (hG : lGo ξ i) : RR (mL ξ) 108 32136 692 [some (.ref 1300), some (.ref 0), some (.ref 81), some (.int (zI i))] [] zS0 h (zQb zS0 fun b _ => b = true) := by
  refine r_aload_n (pc := 692) (a := 0) dL_law_692 rfl ?_
  refine r_callV (μ2 := mX11_adopt) (pc := 693) (as := []) (st := []) rfl s0_0 ml_L_96 im_X11_adopt se_X11_adopt okX11_adopt ⟨Nat.le_of_ble_eq_true rfl, Nat.le_of_ble_eq_true rfl⟩ dL_law_693 (Nat.le_of_ble_eq_true rfl) rfl (Nat.le_of_ble_eq_true rfl) (Nat.le_of_ble_eq_true rfl) (Nat.le_of_ble_eq_true rfl) (zCC.mono (cAdopt W C (K := (fun x y => x = (fAdopt a) ∧ CR (aAdopt a) y ∧ zHi81 h y)) (fun h' c f => ⟨rfl, c, f⟩)) ?_)
  rintro r S' h1 ⟨rfl, q1, hr1, rfl, C1, f1⟩
  subst hr1
  show RR (mL ξ) 108 32136 696 [some (.ref 1300), some (.ref 0), some (.ref 81), some (.int (zI i))] [.int (zI (fAdopt a))] zS0 h1 (zQb zS0 fun b _ => b = true)
  refine r_aload_n (pc := 696) (a := 81) dL_law_696 rfl ?_
  refine r_callV (μ2 := mX12_adopt) (pc := 697) (as := []) (st := [.int (zI (fAdopt a))]) rfl s0_81 ml_L_99 im_X12_adopt se_X12_adopt okX12_adopt ⟨Nat.le_of_ble_eq_true rfl, Nat.le_of_ble_eq_true rfl⟩ dL_law_697 (Nat.le_of_ble_eq_true rfl) rfl (Nat.le_of_ble_eq_true rfl) (Nat.le_of_ble_eq_true rfl) (Nat.le_of_ble_eq_true rfl) (zCC.mono (mAdopt W (M.hi f1) (K := (fun x y => x = (fAdopt a) ∧ MR (aAdopt a) y ∧ zLo81 h1 y)) (fun h' c f => ⟨rfl, c, f⟩)) ?_)
  rintro r S' h2 ⟨rfl, q2, hr2, rfl, M2, f2⟩
  subst hr2
  show RR (mL ξ) 108 32136 700 [some (.ref 1300), some (.ref 0), some (.ref 81), some (.int (zI i))] [.int (zI (fAdopt a)), .int (zI (fAdopt a))] zS0 h2 (zQb zS0 fun b _ => b = true)
  refine q_icmp (pc := 700) (x := (fAdopt a)) (tgt := 1421) dL_law_700 (by decide) ?_
  exact hG _ _ (wAdopt W) (C1.lo f2) M2
set_option maxRecDepth 100000 in
set_option maxHeartbeats 4000000 in
theorem lc_steps {ξ : Nat × (Nat → Int)} {a h : zMm} {i : Int} {x1 : Int} {x2 : Int} (W : WF a) (C : CR a h) (M : MR a h) (hi : 0 ≤ i ∧ i + 7 ≤ (ξ.1 : Int) ∧ ξ.1 ≤ 3584) (e1 : ξ.2 (i + 1).toNat = x1) (r1 : zR x1) (e2 : ξ.2 (i + 2).toNat = x2) (r2 : zR x2) (hG : lGo ξ i) : RR (mL ξ) 108 32136 705 [some (.ref 1300), some (.ref 0), some (.ref 81), some (.int (zI i))] [] zS0 h (zQb zS0 fun b _ => b = true) := by
  refine r_aload_n (pc := 705) (a := 0) dL_law_705 rfl ?_
  refine r_aload_n (pc := 706) (a := 1300) dL_law_706 rfl ?_
  refine r_iload_n (pc := 707) (x := i) dL_law_707 rfl ?_
  refine r_iconst (pc := 708) dL_law_708 ?_
  refine r_iadd (pc := 709) (x := i) (y := 1) dL_law_709 ?_
  refine r_xald (pc := 710) (ξ := ξ) (i := (i + 1)) (x := x1) rfl dL_law_710 ⟨by omega, by omega, by omega⟩ e1 ?_
  refine r_aload_n (pc := 711) (a := 1300) dL_law_711 rfl ?_
  refine r_iload_n (pc := 712) (x := i) dL_law_712 rfl ?_
  refine r_iconst (pc := 713) dL_law_713 ?_
  refine r_iadd (pc := 714) (x := i) (y := 2) dL_law_714 ?_
  refine r_xald (pc := 715) (ξ := ξ) (i := (i + 2)) (x := x2) rfl dL_law_715 ⟨by omega, by omega, by omega⟩ e2 ?_
  refine r_callV (μ2 := mX11_steps) (pc := 716) (as := [.int (zI x1), .int (zI x2)]) (st := []) rfl s0_0 ml_L_100 im_X11_steps se_X11_steps okX11_steps ⟨Nat.le_of_ble_eq_true rfl, Nat.le_of_ble_eq_true rfl⟩ dL_law_716 (Nat.le_of_ble_eq_true rfl) rfl (Nat.le_of_ble_eq_true rfl) (Nat.le_of_ble_eq_true rfl) (Nat.le_of_ble_eq_true rfl) (zCC.mono (cSteps C r1 r2 (K := (fun x y => x = (fStp a x1 x2) ∧ CR a y ∧ zHi81 h y)) (fun h' c f => ⟨rfl, c, f⟩)) ?_)
  rintro r S' h1 ⟨rfl, q1, hr1, rfl, C1, f1⟩
  subst hr1
  show RR (mL ξ) 108 32136 719 [some (.ref 1300), some (.ref 0), some (.ref 81), some (.int (zI i))] [.int (zI (fStp a x1 x2))] zS0 h1 (zQb zS0 fun b _ => b = true)
  refine r_aload_n (pc := 719) (a := 81) dL_law_719 rfl ?_
  refine r_aload_n (pc := 720) (a := 1300) dL_law_720 rfl ?_
  refine r_iload_n (pc := 721) (x := i) dL_law_721 rfl ?_
  refine r_iconst (pc := 722) dL_law_722 ?_
  refine r_iadd (pc := 723) (x := i) (y := 1) dL_law_723 ?_
  refine r_xald (pc := 724) (ξ := ξ) (i := (i + 1)) (x := x1) rfl dL_law_724 ⟨by omega, by omega, by omega⟩ e1 ?_
  refine r_aload_n (pc := 725) (a := 1300) dL_law_725 rfl ?_
  refine r_iload_n (pc := 726) (x := i) dL_law_726 rfl ?_
  refine r_iconst (pc := 727) dL_law_727 ?_
  refine r_iadd (pc := 728) (x := i) (y := 2) dL_law_728 ?_
  refine r_xald (pc := 729) (ξ := ξ) (i := (i + 2)) (x := x2) rfl dL_law_729 ⟨by omega, by omega, by omega⟩ e2 ?_
  refine r_callV (μ2 := mX12_steps) (pc := 730) (as := [.int (zI x1), .int (zI x2)]) (st := [.int (zI (fStp a x1 x2))]) rfl s0_81 ml_L_103 im_X12_steps se_X12_steps okX12_steps ⟨Nat.le_of_ble_eq_true rfl, Nat.le_of_ble_eq_true rfl⟩ dL_law_730 (Nat.le_of_ble_eq_true rfl) rfl (Nat.le_of_ble_eq_true rfl) (Nat.le_of_ble_eq_true rfl) (Nat.le_of_ble_eq_true rfl) (zCC.mono (mSteps (M.hi f1) r1 r2 (K := (fun x y => x = (fStp a x1 x2) ∧ MR a y ∧ zLo81 h1 y)) (fun h' c f => ⟨rfl, c, f⟩)) ?_)
  rintro r S' h2 ⟨rfl, q2, hr2, rfl, M2, f2⟩
  subst hr2
  show RR (mL ξ) 108 32136 733 [some (.ref 1300), some (.ref 0), some (.ref 81), some (.int (zI i))] [.int (zI (fStp a x1 x2)), .int (zI (fStp a x1 x2))] zS0 h2 (zQb zS0 fun b _ => b = true)
  refine q_icmp (pc := 733) (x := (fStp a x1 x2)) (tgt := 1421) dL_law_733 (by decide) ?_
  exact hG _ _ W (C1.lo f2) M2
set_option maxRecDepth 100000 in
set_option maxHeartbeats 4000000 in
theorem lc_beyond {ξ : Nat × (Nat → Int)} {a h : zMm} {i : Int}  (W : WF a) (C : CR a h) (M : MR a h) (hi : 0 ≤ i ∧ i + 7 ≤ (ξ.1 : Int) ∧ ξ.1 ≤ 3584)  (hG : lGo ξ i) : RR (mL ξ) 108 32136 738 [some (.ref 1300), some (.ref 0), some (.ref 81), some (.int (zI i))] [] zS0 h (zQb zS0 fun b _ => b = true) := by
  refine r_aload_n (pc := 738) (a := 0) dL_law_738 rfl ?_
  refine r_callV (μ2 := mX11_beyond) (pc := 739) (as := []) (st := []) rfl s0_0 ml_L_104 im_X11_beyond se_X11_beyond okX11_beyond ⟨Nat.le_of_ble_eq_true rfl, Nat.le_of_ble_eq_true rfl⟩ dL_law_739 (Nat.le_of_ble_eq_true rfl) rfl (Nat.le_of_ble_eq_true rfl) (Nat.le_of_ble_eq_true rfl) (Nat.le_of_ble_eq_true rfl) (zCC.mono (cBeyond W C (K := (fun x y => x = (zB (gBy a) 36) ∧ CR a y ∧ zHi81 h y)) (fun h' c f => ⟨rfl, c, f⟩)) ?_)
  rintro r S' h1 ⟨rfl, q1, hr1, rfl, C1, f1⟩
  subst hr1
  show RR (mL ξ) 108 32136 742 [some (.ref 1300), some (.ref 0), some (.ref 81), some (.int (zI i))] [.long (zJ (zB (gBy a) 36))] zS0 h1 (zQb zS0 fun b _ => b = true)
  refine r_aload_n (pc := 742) (a := 81) dL_law_742 rfl ?_
  refine r_callV (μ2 := mX12_beyond) (pc := 743) (as := []) (st := [.long (zJ (zB (gBy a) 36))]) rfl s0_81 ml_L_108 im_X12_beyond se_X12_beyond okX12_beyond ⟨Nat.le_of_ble_eq_true rfl, Nat.le_of_ble_eq_true rfl⟩ dL_law_743 (Nat.le_of_ble_eq_true rfl) rfl (Nat.le_of_ble_eq_true rfl) (Nat.le_of_ble_eq_true rfl) (Nat.le_of_ble_eq_true rfl) (zCC.mono (mBeyond W (M.hi f1) (K := (fun x y => x = (zB (gBy a) 36) ∧ MR a y ∧ zLo81 h1 y)) (fun h' c f => ⟨rfl, c, f⟩)) ?_)
  rintro r S' h2 ⟨rfl, q2, hr2, rfl, M2, f2⟩
  subst hr2
  show RR (mL ξ) 108 32136 746 [some (.ref 1300), some (.ref 0), some (.ref 81), some (.int (zI i))] [.long (zJ (zB (gBy a) 36)), .long (zJ (zB (gBy a) 36))] zS0 h2 (zQb zS0 fun b _ => b = true)
  refine q_lcmp (pc := 746) (x := (zB (gBy a) 36)) dL_law_746 ?_
  refine r_if_eq (pc := 747) (x := 0) (tgt := 1421) dL_law_747 (by decide) (by decide) (fun _ => ?_) (fun c => absurd rfl c)
  exact hG _ _ W (C1.lo f2) M2
set_option maxRecDepth 100000 in
set_option maxHeartbeats 4000000 in
theorem lc_middle {ξ : Nat × (Nat → Int)} {a h : zMm} {i : Int} {x1 : Int} (W : WF a) (C : CR a h) (M : MR a h) (hi : 0 ≤ i ∧ i + 7 ≤ (ξ.1 : Int) ∧ ξ.1 ≤ 3584) (e1 : ξ.2 (i + 1).toNat = x1) (r1 : zR x1) (hG : lGo ξ i) : RR (mL ξ) 108 32136 752 [some (.ref 1300), some (.ref 0), some (.ref 81), some (.int (zI i))] [] zS0 h (zQb zS0 fun b _ => b = true) := by
  refine r_aload_n (pc := 752) (a := 0) dL_law_752 rfl ?_
  refine r_aload_n (pc := 753) (a := 1300) dL_law_753 rfl ?_
  refine r_iload_n (pc := 754) (x := i) dL_law_754 rfl ?_
  refine r_iconst (pc := 755) dL_law_755 ?_
  refine r_iadd (pc := 756) (x := i) (y := 1) dL_law_756 ?_
  refine r_xald (pc := 757) (ξ := ξ) (i := (i + 1)) (x := x1) rfl dL_law_757 ⟨by omega, by omega, by omega⟩ e1 ?_
  refine r_callV (μ2 := mX11_middle) (pc := 758) (as := [.int (zI x1)]) (st := []) rfl s0_0 ml_L_109 im_X11_middle se_X11_middle okX11_middle ⟨Nat.le_of_ble_eq_true rfl, Nat.le_of_ble_eq_true rfl⟩ dL_law_758 (Nat.le_of_ble_eq_true rfl) rfl (Nat.le_of_ble_eq_true rfl) (Nat.le_of_ble_eq_true rfl) (Nat.le_of_ble_eq_true rfl) (zCC.mono (cMiddle C r1 (K := (fun x y => x = (fMiddle a x1) ∧ CR a y ∧ zHi81 h y)) (fun h' c f => ⟨rfl, c, f⟩)) ?_)
  rintro r S' h1 ⟨rfl, q1, hr1, rfl, C1, f1⟩
  subst hr1
  show RR (mL ξ) 108 32136 761 [some (.ref 1300), some (.ref 0), some (.ref 81), some (.int (zI i))] [.int (zI (fMiddle a x1))] zS0 h1 (zQb zS0 fun b _ => b = true)
  refine r_aload_n (pc := 761) (a := 81) dL_law_761 rfl ?_
  refine r_aload_n (pc := 762) (a := 1300) dL_law_762 rfl ?_
  refine r_iload_n (pc := 763) (x := i) dL_law_763 rfl ?_
  refine r_iconst (pc := 764) dL_law_764 ?_
  refine r_iadd (pc := 765) (x := i) (y := 1) dL_law_765 ?_
  refine r_xald (pc := 766) (ξ := ξ) (i := (i + 1)) (x := x1) rfl dL_law_766 ⟨by omega, by omega, by omega⟩ e1 ?_
  refine r_callV (μ2 := mX12_middle) (pc := 767) (as := [.int (zI x1)]) (st := [.int (zI (fMiddle a x1))]) rfl s0_81 ml_L_112 im_X12_middle se_X12_middle okX12_middle ⟨Nat.le_of_ble_eq_true rfl, Nat.le_of_ble_eq_true rfl⟩ dL_law_767 (Nat.le_of_ble_eq_true rfl) rfl (Nat.le_of_ble_eq_true rfl) (Nat.le_of_ble_eq_true rfl) (Nat.le_of_ble_eq_true rfl) (zCC.mono (mMiddle (M.hi f1) r1 (K := (fun x y => x = (fMiddle a x1) ∧ MR a y ∧ zLo81 h1 y)) (fun h' c f => ⟨rfl, c, f⟩)) ?_)
  rintro r S' h2 ⟨rfl, q2, hr2, rfl, M2, f2⟩
  subst hr2
  show RR (mL ξ) 108 32136 770 [some (.ref 1300), some (.ref 0), some (.ref 81), some (.int (zI i))] [.int (zI (fMiddle a x1)), .int (zI (fMiddle a x1))] zS0 h2 (zQb zS0 fun b _ => b = true)
  refine q_icmp (pc := 770) (x := (fMiddle a x1)) (tgt := 1421) dL_law_770 (by decide) ?_
  exact hG _ _ W (C1.lo f2) M2
set_option maxRecDepth 100000 in
set_option maxHeartbeats 4000000 in
theorem lc_robot {ξ : Nat × (Nat → Int)} {a h : zMm} {i : Int} {x1 : Int} {x2 : Int} {x3 : Int} {x4 : Int} {x5 : Int} {x6 : Int} (W : WF a) (C : CR a h) (M : MR a h) (hi : 0 ≤ i ∧ i + 7 ≤ (ξ.1 : Int) ∧ ξ.1 ≤ 3584) (e1 : ξ.2 (i + 1).toNat = x1) (r1 : zR x1) (e2 : ξ.2 (i + 2).toNat = x2) (r2 : zR x2) (e3 : ξ.2 (i + 3).toNat = x3) (r3 : zR x3) (e4 : ξ.2 (i + 4).toNat = x4) (r4 : zR x4) (e5 : ξ.2 (i + 5).toNat = x5) (r5 : zR x5) (e6 : ξ.2 (i + 6).toNat = x6) (r6 : zR x6) (hG : lGo ξ i) : RR (mL ξ) 108 32136 775 [some (.ref 1300), some (.ref 0), some (.ref 81), some (.int (zI i))] [] zS0 h (zQb zS0 fun b _ => b = true) := by
  refine r_aload_n (pc := 775) (a := 0) dL_law_775 rfl ?_
  refine r_aload_n (pc := 776) (a := 1300) dL_law_776 rfl ?_
  refine r_iload_n (pc := 777) (x := i) dL_law_777 rfl ?_
  refine r_iconst (pc := 778) dL_law_778 ?_
  refine r_iadd (pc := 779) (x := i) (y := 1) dL_law_779 ?_
  refine r_xald (pc := 780) (ξ := ξ) (i := (i + 1)) (x := x1) rfl dL_law_780 ⟨by omega, by omega, by omega⟩ e1 ?_
  refine r_aload_n (pc := 781) (a := 1300) dL_law_781 rfl ?_
  refine r_iload_n (pc := 782) (x := i) dL_law_782 rfl ?_
  refine r_iconst (pc := 783) dL_law_783 ?_
  refine r_iadd (pc := 784) (x := i) (y := 2) dL_law_784 ?_
  refine r_xald (pc := 785) (ξ := ξ) (i := (i + 2)) (x := x2) rfl dL_law_785 ⟨by omega, by omega, by omega⟩ e2 ?_
  refine r_aload_n (pc := 786) (a := 1300) dL_law_786 rfl ?_
  refine r_iload_n (pc := 787) (x := i) dL_law_787 rfl ?_
  refine r_iconst (pc := 788) dL_law_788 ?_
  refine r_iadd (pc := 789) (x := i) (y := 3) dL_law_789 ?_
  refine r_xald (pc := 790) (ξ := ξ) (i := (i + 3)) (x := x3) rfl dL_law_790 ⟨by omega, by omega, by omega⟩ e3 ?_
  refine r_aload_n (pc := 791) (a := 1300) dL_law_791 rfl ?_
  refine r_iload_n (pc := 792) (x := i) dL_law_792 rfl ?_
  refine r_iconst (pc := 793) dL_law_793 ?_
  refine r_iadd (pc := 794) (x := i) (y := 4) dL_law_794 ?_
  refine r_xald (pc := 795) (ξ := ξ) (i := (i + 4)) (x := x4) rfl dL_law_795 ⟨by omega, by omega, by omega⟩ e4 ?_
  refine r_aload_n (pc := 796) (a := 1300) dL_law_796 rfl ?_
  refine r_iload_n (pc := 797) (x := i) dL_law_797 rfl ?_
  refine r_iconst (pc := 798) dL_law_798 ?_
  refine r_iadd (pc := 799) (x := i) (y := 5) dL_law_799 ?_
  refine r_xald (pc := 800) (ξ := ξ) (i := (i + 5)) (x := x5) rfl dL_law_800 ⟨by omega, by omega, by omega⟩ e5 ?_
  refine r_aload_n (pc := 801) (a := 1300) dL_law_801 rfl ?_
  refine r_iload_n (pc := 802) (x := i) dL_law_802 rfl ?_
  refine r_bipush (pc := 803) (x := 6) dL_law_803 (by decide) ?_
  refine r_iadd (pc := 805) (x := i) (y := 6) dL_law_805 ?_
  refine r_xald (pc := 806) (ξ := ξ) (i := (i + 6)) (x := x6) rfl dL_law_806 ⟨by omega, by omega, by omega⟩ e6 ?_
  refine r_callV (μ2 := mX11_robot) (pc := 807) (as := [.int (zI x1), .int (zI x2), .int (zI x3), .int (zI x4), .int (zI x5), .int (zI x6)]) (st := []) rfl s0_0 ml_L_113 im_X11_robot se_X11_robot okX11_robot ⟨Nat.le_of_ble_eq_true rfl, Nat.le_of_ble_eq_true rfl⟩ dL_law_807 (Nat.le_of_ble_eq_true rfl) rfl (Nat.le_of_ble_eq_true rfl) (Nat.le_of_ble_eq_true rfl) (Nat.le_of_ble_eq_true rfl) (zCC.mono (cRobot C r1 r2 r3 r4 r5 r6 (K := (fun x y => x = (fRobot a x1 x2 x3 x4 x5 x6) ∧ CR a y ∧ zHi81 h y)) (fun h' c f => ⟨rfl, c, f⟩)) ?_)
  rintro r S' h1 ⟨rfl, q1, hr1, rfl, C1, f1⟩
  subst hr1
  show RR (mL ξ) 108 32136 810 [some (.ref 1300), some (.ref 0), some (.ref 81), some (.int (zI i))] [.long (zJ (fRobot a x1 x2 x3 x4 x5 x6))] zS0 h1 (zQb zS0 fun b _ => b = true)
  refine r_aload_n (pc := 810) (a := 81) dL_law_810 rfl ?_
  refine r_aload_n (pc := 811) (a := 1300) dL_law_811 rfl ?_
  refine r_iload_n (pc := 812) (x := i) dL_law_812 rfl ?_
  refine r_iconst (pc := 813) dL_law_813 ?_
  refine r_iadd (pc := 814) (x := i) (y := 1) dL_law_814 ?_
  refine r_xald (pc := 815) (ξ := ξ) (i := (i + 1)) (x := x1) rfl dL_law_815 ⟨by omega, by omega, by omega⟩ e1 ?_
  refine r_aload_n (pc := 816) (a := 1300) dL_law_816 rfl ?_
  refine r_iload_n (pc := 817) (x := i) dL_law_817 rfl ?_
  refine r_iconst (pc := 818) dL_law_818 ?_
  refine r_iadd (pc := 819) (x := i) (y := 2) dL_law_819 ?_
  refine r_xald (pc := 820) (ξ := ξ) (i := (i + 2)) (x := x2) rfl dL_law_820 ⟨by omega, by omega, by omega⟩ e2 ?_
  refine r_aload_n (pc := 821) (a := 1300) dL_law_821 rfl ?_
  refine r_iload_n (pc := 822) (x := i) dL_law_822 rfl ?_
  refine r_iconst (pc := 823) dL_law_823 ?_
  refine r_iadd (pc := 824) (x := i) (y := 3) dL_law_824 ?_
  refine r_xald (pc := 825) (ξ := ξ) (i := (i + 3)) (x := x3) rfl dL_law_825 ⟨by omega, by omega, by omega⟩ e3 ?_
  refine r_aload_n (pc := 826) (a := 1300) dL_law_826 rfl ?_
  refine r_iload_n (pc := 827) (x := i) dL_law_827 rfl ?_
  refine r_iconst (pc := 828) dL_law_828 ?_
  refine r_iadd (pc := 829) (x := i) (y := 4) dL_law_829 ?_
  refine r_xald (pc := 830) (ξ := ξ) (i := (i + 4)) (x := x4) rfl dL_law_830 ⟨by omega, by omega, by omega⟩ e4 ?_
  refine r_aload_n (pc := 831) (a := 1300) dL_law_831 rfl ?_
  refine r_iload_n (pc := 832) (x := i) dL_law_832 rfl ?_
  refine r_iconst (pc := 833) dL_law_833 ?_
  refine r_iadd (pc := 834) (x := i) (y := 5) dL_law_834 ?_
  refine r_xald (pc := 835) (ξ := ξ) (i := (i + 5)) (x := x5) rfl dL_law_835 ⟨by omega, by omega, by omega⟩ e5 ?_
  refine r_aload_n (pc := 836) (a := 1300) dL_law_836 rfl ?_
  refine r_iload_n (pc := 837) (x := i) dL_law_837 rfl ?_
  refine r_bipush (pc := 838) (x := 6) dL_law_838 (by decide) ?_
  refine r_iadd (pc := 840) (x := i) (y := 6) dL_law_840 ?_
  refine r_xald (pc := 841) (ξ := ξ) (i := (i + 6)) (x := x6) rfl dL_law_841 ⟨by omega, by omega, by omega⟩ e6 ?_
  refine r_callV (μ2 := mX12_robot) (pc := 842) (as := [.int (zI x1), .int (zI x2), .int (zI x3), .int (zI x4), .int (zI x5), .int (zI x6)]) (st := [.long (zJ (fRobot a x1 x2 x3 x4 x5 x6))]) rfl s0_81 ml_L_117 im_X12_robot se_X12_robot okX12_robot ⟨Nat.le_of_ble_eq_true rfl, Nat.le_of_ble_eq_true rfl⟩ dL_law_842 (Nat.le_of_ble_eq_true rfl) rfl (Nat.le_of_ble_eq_true rfl) (Nat.le_of_ble_eq_true rfl) (Nat.le_of_ble_eq_true rfl) (zCC.mono (mRobot (M.hi f1) r1 r2 r3 r4 r5 r6 (K := (fun x y => x = (fRobot a x1 x2 x3 x4 x5 x6) ∧ MR a y ∧ zLo81 h1 y)) (fun h' c f => ⟨rfl, c, f⟩)) ?_)
  rintro r S' h2 ⟨rfl, q2, hr2, rfl, M2, f2⟩
  subst hr2
  show RR (mL ξ) 108 32136 845 [some (.ref 1300), some (.ref 0), some (.ref 81), some (.int (zI i))] [.long (zJ (fRobot a x1 x2 x3 x4 x5 x6)), .long (zJ (fRobot a x1 x2 x3 x4 x5 x6))] zS0 h2 (zQb zS0 fun b _ => b = true)
  refine q_lcmp (pc := 845) (x := (fRobot a x1 x2 x3 x4 x5 x6)) dL_law_845 ?_
  refine r_if_eq (pc := 846) (x := 0) (tgt := 1421) dL_law_846 (by decide) (by decide) (fun _ => ?_) (fun c => absurd rfl c)
  exact hG _ _ W (C1.lo f2) M2
set_option maxRecDepth 100000 in
set_option maxHeartbeats 4000000 in
theorem lc_until {ξ : Nat × (Nat → Int)} {a h : zMm} {i : Int} {x1 : Int} {x2 : Int} {x3 : Int} {x4 : Int} {x5 : Int} {x6 : Int} (W : WF a) (C : CR a h) (M : MR a h) (hi : 0 ≤ i ∧ i + 7 ≤ (ξ.1 : Int) ∧ ξ.1 ≤ 3584) (e1 : ξ.2 (i + 1).toNat = x1) (r1 : zR x1) (e2 : ξ.2 (i + 2).toNat = x2) (r2 : zR x2) (e3 : ξ.2 (i + 3).toNat = x3) (r3 : zR x3) (e4 : ξ.2 (i + 4).toNat = x4) (r4 : zR x4) (e5 : ξ.2 (i + 5).toNat = x5) (r5 : zR x5) (e6 : ξ.2 (i + 6).toNat = x6) (r6 : zR x6) (hG : lGo ξ i) : RR (mL ξ) 108 32136 851 [some (.ref 1300), some (.ref 0), some (.ref 81), some (.int (zI i))] [] zS0 h (zQb zS0 fun b _ => b = true) := by
  refine r_aload_n (pc := 851) (a := 0) dL_law_851 rfl ?_
  refine r_aload_n (pc := 852) (a := 1300) dL_law_852 rfl ?_
  refine r_iload_n (pc := 853) (x := i) dL_law_853 rfl ?_
  refine r_iconst (pc := 854) dL_law_854 ?_
  refine r_iadd (pc := 855) (x := i) (y := 1) dL_law_855 ?_
  refine r_xald (pc := 856) (ξ := ξ) (i := (i + 1)) (x := x1) rfl dL_law_856 ⟨by omega, by omega, by omega⟩ e1 ?_
  refine r_aload_n (pc := 857) (a := 1300) dL_law_857 rfl ?_
  refine r_iload_n (pc := 858) (x := i) dL_law_858 rfl ?_
  refine r_iconst (pc := 859) dL_law_859 ?_
  refine r_iadd (pc := 860) (x := i) (y := 2) dL_law_860 ?_
  refine r_xald (pc := 861) (ξ := ξ) (i := (i + 2)) (x := x2) rfl dL_law_861 ⟨by omega, by omega, by omega⟩ e2 ?_
  refine r_aload_n (pc := 862) (a := 1300) dL_law_862 rfl ?_
  refine r_iload_n (pc := 863) (x := i) dL_law_863 rfl ?_
  refine r_iconst (pc := 864) dL_law_864 ?_
  refine r_iadd (pc := 865) (x := i) (y := 3) dL_law_865 ?_
  refine r_xald (pc := 866) (ξ := ξ) (i := (i + 3)) (x := x3) rfl dL_law_866 ⟨by omega, by omega, by omega⟩ e3 ?_
  refine r_aload_n (pc := 867) (a := 1300) dL_law_867 rfl ?_
  refine r_iload_n (pc := 868) (x := i) dL_law_868 rfl ?_
  refine r_iconst (pc := 869) dL_law_869 ?_
  refine r_iadd (pc := 870) (x := i) (y := 4) dL_law_870 ?_
  refine r_xald (pc := 871) (ξ := ξ) (i := (i + 4)) (x := x4) rfl dL_law_871 ⟨by omega, by omega, by omega⟩ e4 ?_
  refine r_aload_n (pc := 872) (a := 1300) dL_law_872 rfl ?_
  refine r_iload_n (pc := 873) (x := i) dL_law_873 rfl ?_
  refine r_iconst (pc := 874) dL_law_874 ?_
  refine r_iadd (pc := 875) (x := i) (y := 5) dL_law_875 ?_
  refine r_xald (pc := 876) (ξ := ξ) (i := (i + 5)) (x := x5) rfl dL_law_876 ⟨by omega, by omega, by omega⟩ e5 ?_
  refine r_aload_n (pc := 877) (a := 1300) dL_law_877 rfl ?_
  refine r_iload_n (pc := 878) (x := i) dL_law_878 rfl ?_
  refine r_bipush (pc := 879) (x := 6) dL_law_879 (by decide) ?_
  refine r_iadd (pc := 881) (x := i) (y := 6) dL_law_881 ?_
  refine r_xald (pc := 882) (ξ := ξ) (i := (i + 6)) (x := x6) rfl dL_law_882 ⟨by omega, by omega, by omega⟩ e6 ?_
  refine r_callV (μ2 := mX11_until) (pc := 883) (as := [.int (zI x1), .int (zI x2), .int (zI x3), .int (zI x4), .int (zI x5), .int (zI x6)]) (st := []) rfl s0_0 ml_L_118 im_X11_until se_X11_until okX11_until ⟨Nat.le_of_ble_eq_true rfl, Nat.le_of_ble_eq_true rfl⟩ dL_law_883 (Nat.le_of_ble_eq_true rfl) rfl (Nat.le_of_ble_eq_true rfl) (Nat.le_of_ble_eq_true rfl) (Nat.le_of_ble_eq_true rfl) (zCC.mono (cUntil C r1 r2 r3 r4 r5 r6 (K := (fun x y => x = (fUntil a x1 x2 x3 x4 x5 x6) ∧ CR a y ∧ zHi81 h y)) (fun h' c f => ⟨rfl, c, f⟩)) ?_)
  rintro r S' h1 ⟨rfl, q1, hr1, rfl, C1, f1⟩
  subst hr1
  show RR (mL ξ) 108 32136 886 [some (.ref 1300), some (.ref 0), some (.ref 81), some (.int (zI i))] [.int (zI (fUntil a x1 x2 x3 x4 x5 x6))] zS0 h1 (zQb zS0 fun b _ => b = true)
  refine r_aload_n (pc := 886) (a := 81) dL_law_886 rfl ?_
  refine r_aload_n (pc := 887) (a := 1300) dL_law_887 rfl ?_
  refine r_iload_n (pc := 888) (x := i) dL_law_888 rfl ?_
  refine r_iconst (pc := 889) dL_law_889 ?_
  refine r_iadd (pc := 890) (x := i) (y := 1) dL_law_890 ?_
  refine r_xald (pc := 891) (ξ := ξ) (i := (i + 1)) (x := x1) rfl dL_law_891 ⟨by omega, by omega, by omega⟩ e1 ?_
  refine r_aload_n (pc := 892) (a := 1300) dL_law_892 rfl ?_
  refine r_iload_n (pc := 893) (x := i) dL_law_893 rfl ?_
  refine r_iconst (pc := 894) dL_law_894 ?_
  refine r_iadd (pc := 895) (x := i) (y := 2) dL_law_895 ?_
  refine r_xald (pc := 896) (ξ := ξ) (i := (i + 2)) (x := x2) rfl dL_law_896 ⟨by omega, by omega, by omega⟩ e2 ?_
  refine r_aload_n (pc := 897) (a := 1300) dL_law_897 rfl ?_
  refine r_iload_n (pc := 898) (x := i) dL_law_898 rfl ?_
  refine r_iconst (pc := 899) dL_law_899 ?_
  refine r_iadd (pc := 900) (x := i) (y := 3) dL_law_900 ?_
  refine r_xald (pc := 901) (ξ := ξ) (i := (i + 3)) (x := x3) rfl dL_law_901 ⟨by omega, by omega, by omega⟩ e3 ?_
  refine r_aload_n (pc := 902) (a := 1300) dL_law_902 rfl ?_
  refine r_iload_n (pc := 903) (x := i) dL_law_903 rfl ?_
  refine r_iconst (pc := 904) dL_law_904 ?_
  refine r_iadd (pc := 905) (x := i) (y := 4) dL_law_905 ?_
  refine r_xald (pc := 906) (ξ := ξ) (i := (i + 4)) (x := x4) rfl dL_law_906 ⟨by omega, by omega, by omega⟩ e4 ?_
  refine r_aload_n (pc := 907) (a := 1300) dL_law_907 rfl ?_
  refine r_iload_n (pc := 908) (x := i) dL_law_908 rfl ?_
  refine r_iconst (pc := 909) dL_law_909 ?_
  refine r_iadd (pc := 910) (x := i) (y := 5) dL_law_910 ?_
  refine r_xald (pc := 911) (ξ := ξ) (i := (i + 5)) (x := x5) rfl dL_law_911 ⟨by omega, by omega, by omega⟩ e5 ?_
  refine r_aload_n (pc := 912) (a := 1300) dL_law_912 rfl ?_
  refine r_iload_n (pc := 913) (x := i) dL_law_913 rfl ?_
  refine r_bipush (pc := 914) (x := 6) dL_law_914 (by decide) ?_
  refine r_iadd (pc := 916) (x := i) (y := 6) dL_law_916 ?_
  refine r_xald (pc := 917) (ξ := ξ) (i := (i + 6)) (x := x6) rfl dL_law_917 ⟨by omega, by omega, by omega⟩ e6 ?_
  refine r_callV (μ2 := mX12_until) (pc := 918) (as := [.int (zI x1), .int (zI x2), .int (zI x3), .int (zI x4), .int (zI x5), .int (zI x6)]) (st := [.int (zI (fUntil a x1 x2 x3 x4 x5 x6))]) rfl s0_81 ml_L_122 im_X12_until se_X12_until okX12_until ⟨Nat.le_of_ble_eq_true rfl, Nat.le_of_ble_eq_true rfl⟩ dL_law_918 (Nat.le_of_ble_eq_true rfl) rfl (Nat.le_of_ble_eq_true rfl) (Nat.le_of_ble_eq_true rfl) (Nat.le_of_ble_eq_true rfl) (zCC.mono (mUntil (M.hi f1) r1 r2 r3 r4 r5 r6 (K := (fun x y => x = (fUntil a x1 x2 x3 x4 x5 x6) ∧ MR a y ∧ zLo81 h1 y)) (fun h' c f => ⟨rfl, c, f⟩)) ?_)
  rintro r S' h2 ⟨rfl, q2, hr2, rfl, M2, f2⟩
  subst hr2
  show RR (mL ξ) 108 32136 921 [some (.ref 1300), some (.ref 0), some (.ref 81), some (.int (zI i))] [.int (zI (fUntil a x1 x2 x3 x4 x5 x6)), .int (zI (fUntil a x1 x2 x3 x4 x5 x6))] zS0 h2 (zQb zS0 fun b _ => b = true)
  refine q_icmp (pc := 921) (x := (fUntil a x1 x2 x3 x4 x5 x6)) (tgt := 1421) dL_law_921 (by decide) ?_
  exact hG _ _ W (C1.lo f2) M2
set_option maxRecDepth 100000 in
set_option maxHeartbeats 4000000 in
theorem lc_never {ξ : Nat × (Nat → Int)} {a h : zMm} {i : Int} {x1 : Int} {x2 : Int} {x3 : Int} (W : WF a) (C : CR a h) (M : MR a h) (hi : 0 ≤ i ∧ i + 7 ≤ (ξ.1 : Int) ∧ ξ.1 ≤ 3584) (e1 : ξ.2 (i + 1).toNat = x1) (r1 : zR x1) (e2 : ξ.2 (i + 2).toNat = x2) (r2 : zR x2) (e3 : ξ.2 (i + 3).toNat = x3) (r3 : zR x3) (hG : lGo ξ i) : RR (mL ξ) 108 32136 926 [some (.ref 1300), some (.ref 0), some (.ref 81), some (.int (zI i))] [] zS0 h (zQb zS0 fun b _ => b = true) := by
  refine r_aload_n (pc := 926) (a := 0) dL_law_926 rfl ?_
  refine r_aload_n (pc := 927) (a := 1300) dL_law_927 rfl ?_
  refine r_iload_n (pc := 928) (x := i) dL_law_928 rfl ?_
  refine r_iconst (pc := 929) dL_law_929 ?_
  refine r_iadd (pc := 930) (x := i) (y := 1) dL_law_930 ?_
  refine r_xald (pc := 931) (ξ := ξ) (i := (i + 1)) (x := x1) rfl dL_law_931 ⟨by omega, by omega, by omega⟩ e1 ?_
  refine r_aload_n (pc := 932) (a := 1300) dL_law_932 rfl ?_
  refine r_iload_n (pc := 933) (x := i) dL_law_933 rfl ?_
  refine r_iconst (pc := 934) dL_law_934 ?_
  refine r_iadd (pc := 935) (x := i) (y := 2) dL_law_935 ?_
  refine r_xald (pc := 936) (ξ := ξ) (i := (i + 2)) (x := x2) rfl dL_law_936 ⟨by omega, by omega, by omega⟩ e2 ?_
  refine r_aload_n (pc := 937) (a := 1300) dL_law_937 rfl ?_
  refine r_iload_n (pc := 938) (x := i) dL_law_938 rfl ?_
  refine r_iconst (pc := 939) dL_law_939 ?_
  refine r_iadd (pc := 940) (x := i) (y := 3) dL_law_940 ?_
  refine r_xald (pc := 941) (ξ := ξ) (i := (i + 3)) (x := x3) rfl dL_law_941 ⟨by omega, by omega, by omega⟩ e3 ?_
  refine r_callV (μ2 := mX11_never) (pc := 942) (as := [.int (zI x1), .int (zI x2), .int (zI x3)]) (st := []) rfl s0_0 ml_L_123 im_X11_never se_X11_never okX11_never ⟨Nat.le_of_ble_eq_true rfl, Nat.le_of_ble_eq_true rfl⟩ dL_law_942 (Nat.le_of_ble_eq_true rfl) rfl (Nat.le_of_ble_eq_true rfl) (Nat.le_of_ble_eq_true rfl) (Nat.le_of_ble_eq_true rfl) (zCC.mono (cNever C r1 r2 r3 (K := (fun x y => x = (fNever a x1 x2 x3) ∧ CR a y ∧ zHi81 h y)) (fun h' c f => ⟨rfl, c, f⟩)) ?_)
  rintro r S' h1 ⟨rfl, q1, hr1, rfl, C1, f1⟩
  subst hr1
  show RR (mL ξ) 108 32136 945 [some (.ref 1300), some (.ref 0), some (.ref 81), some (.int (zI i))] [.long (zJ (fNever a x1 x2 x3))] zS0 h1 (zQb zS0 fun b _ => b = true)
  refine r_aload_n (pc := 945) (a := 81) dL_law_945 rfl ?_
  refine r_aload_n (pc := 946) (a := 1300) dL_law_946 rfl ?_
  refine r_iload_n (pc := 947) (x := i) dL_law_947 rfl ?_
  refine r_iconst (pc := 948) dL_law_948 ?_
  refine r_iadd (pc := 949) (x := i) (y := 1) dL_law_949 ?_
  refine r_xald (pc := 950) (ξ := ξ) (i := (i + 1)) (x := x1) rfl dL_law_950 ⟨by omega, by omega, by omega⟩ e1 ?_
  refine r_aload_n (pc := 951) (a := 1300) dL_law_951 rfl ?_
  refine r_iload_n (pc := 952) (x := i) dL_law_952 rfl ?_
  refine r_iconst (pc := 953) dL_law_953 ?_
  refine r_iadd (pc := 954) (x := i) (y := 2) dL_law_954 ?_
  refine r_xald (pc := 955) (ξ := ξ) (i := (i + 2)) (x := x2) rfl dL_law_955 ⟨by omega, by omega, by omega⟩ e2 ?_
  refine r_aload_n (pc := 956) (a := 1300) dL_law_956 rfl ?_
  refine r_iload_n (pc := 957) (x := i) dL_law_957 rfl ?_
  refine r_iconst (pc := 958) dL_law_958 ?_
  refine r_iadd (pc := 959) (x := i) (y := 3) dL_law_959 ?_
  refine r_xald (pc := 960) (ξ := ξ) (i := (i + 3)) (x := x3) rfl dL_law_960 ⟨by omega, by omega, by omega⟩ e3 ?_
  refine r_callV (μ2 := mX12_never) (pc := 961) (as := [.int (zI x1), .int (zI x2), .int (zI x3)]) (st := [.long (zJ (fNever a x1 x2 x3))]) rfl s0_81 ml_L_127 im_X12_never se_X12_never okX12_never ⟨Nat.le_of_ble_eq_true rfl, Nat.le_of_ble_eq_true rfl⟩ dL_law_961 (Nat.le_of_ble_eq_true rfl) rfl (Nat.le_of_ble_eq_true rfl) (Nat.le_of_ble_eq_true rfl) (Nat.le_of_ble_eq_true rfl) (zCC.mono (mNever (M.hi f1) r1 r2 r3 (K := (fun x y => x = (fNever a x1 x2 x3) ∧ MR a y ∧ zLo81 h1 y)) (fun h' c f => ⟨rfl, c, f⟩)) ?_)
  rintro r S' h2 ⟨rfl, q2, hr2, rfl, M2, f2⟩
  subst hr2
  show RR (mL ξ) 108 32136 964 [some (.ref 1300), some (.ref 0), some (.ref 81), some (.int (zI i))] [.long (zJ (fNever a x1 x2 x3)), .long (zJ (fNever a x1 x2 x3))] zS0 h2 (zQb zS0 fun b _ => b = true)
  refine q_lcmp (pc := 964) (x := (fNever a x1 x2 x3)) dL_law_964 ?_
  refine r_if_eq (pc := 965) (x := 0) (tgt := 1421) dL_law_965 (by decide) (by decide) (fun _ => ?_) (fun c => absurd rfl c)
  exact hG _ _ W (C1.lo f2) M2
set_option maxRecDepth 100000 in
set_option maxHeartbeats 4000000 in
theorem lc_best {ξ : Nat × (Nat → Int)} {a h : zMm} {i : Int} {x1 : Int} {x2 : Int} {x3 : Int} {x4 : Int} {x5 : Int} (W : WF a) (C : CR a h) (M : MR a h) (hi : 0 ≤ i ∧ i + 7 ≤ (ξ.1 : Int) ∧ ξ.1 ≤ 3584) (e1 : ξ.2 (i + 1).toNat = x1) (r1 : zR x1) (e2 : ξ.2 (i + 2).toNat = x2) (r2 : zR x2) (e3 : ξ.2 (i + 3).toNat = x3) (r3 : zR x3) (e4 : ξ.2 (i + 4).toNat = x4) (r4 : zR x4) (e5 : ξ.2 (i + 5).toNat = x5) (r5 : zR x5) (hG : lGo ξ i) : RR (mL ξ) 108 32136 970 [some (.ref 1300), some (.ref 0), some (.ref 81), some (.int (zI i))] [] zS0 h (zQb zS0 fun b _ => b = true) := by
  refine r_aload_n (pc := 970) (a := 0) dL_law_970 rfl ?_
  refine r_aload_n (pc := 971) (a := 1300) dL_law_971 rfl ?_
  refine r_iload_n (pc := 972) (x := i) dL_law_972 rfl ?_
  refine r_iconst (pc := 973) dL_law_973 ?_
  refine r_iadd (pc := 974) (x := i) (y := 1) dL_law_974 ?_
  refine r_xald (pc := 975) (ξ := ξ) (i := (i + 1)) (x := x1) rfl dL_law_975 ⟨by omega, by omega, by omega⟩ e1 ?_
  refine r_aload_n (pc := 976) (a := 1300) dL_law_976 rfl ?_
  refine r_iload_n (pc := 977) (x := i) dL_law_977 rfl ?_
  refine r_iconst (pc := 978) dL_law_978 ?_
  refine r_iadd (pc := 979) (x := i) (y := 2) dL_law_979 ?_
  refine r_xald (pc := 980) (ξ := ξ) (i := (i + 2)) (x := x2) rfl dL_law_980 ⟨by omega, by omega, by omega⟩ e2 ?_
  refine r_aload_n (pc := 981) (a := 1300) dL_law_981 rfl ?_
  refine r_iload_n (pc := 982) (x := i) dL_law_982 rfl ?_
  refine r_iconst (pc := 983) dL_law_983 ?_
  refine r_iadd (pc := 984) (x := i) (y := 3) dL_law_984 ?_
  refine r_xald (pc := 985) (ξ := ξ) (i := (i + 3)) (x := x3) rfl dL_law_985 ⟨by omega, by omega, by omega⟩ e3 ?_
  refine r_aload_n (pc := 986) (a := 1300) dL_law_986 rfl ?_
  refine r_iload_n (pc := 987) (x := i) dL_law_987 rfl ?_
  refine r_iconst (pc := 988) dL_law_988 ?_
  refine r_iadd (pc := 989) (x := i) (y := 4) dL_law_989 ?_
  refine r_xald (pc := 990) (ξ := ξ) (i := (i + 4)) (x := x4) rfl dL_law_990 ⟨by omega, by omega, by omega⟩ e4 ?_
  refine r_aload_n (pc := 991) (a := 1300) dL_law_991 rfl ?_
  refine r_iload_n (pc := 992) (x := i) dL_law_992 rfl ?_
  refine r_iconst (pc := 993) dL_law_993 ?_
  refine r_iadd (pc := 994) (x := i) (y := 5) dL_law_994 ?_
  refine r_xald (pc := 995) (ξ := ξ) (i := (i + 5)) (x := x5) rfl dL_law_995 ⟨by omega, by omega, by omega⟩ e5 ?_
  refine r_callV (μ2 := mX11_best) (pc := 996) (as := [.int (zI x1), .int (zI x2), .int (zI x3), .int (zI x4), .int (zI x5)]) (st := []) rfl s0_0 ml_L_128 im_X11_best se_X11_best okX11_best ⟨Nat.le_of_ble_eq_true rfl, Nat.le_of_ble_eq_true rfl⟩ dL_law_996 (Nat.le_of_ble_eq_true rfl) rfl (Nat.le_of_ble_eq_true rfl) (Nat.le_of_ble_eq_true rfl) (Nat.le_of_ble_eq_true rfl) (zCC.mono (cBest C r1 r2 r3 r4 r5 (K := (fun x y => x = (fBest a x1 x2 x3 x4 x5) ∧ CR a y ∧ zHi81 h y)) (fun h' c f => ⟨rfl, c, f⟩)) ?_)
  rintro r S' h1 ⟨rfl, q1, hr1, rfl, C1, f1⟩
  subst hr1
  show RR (mL ξ) 108 32136 999 [some (.ref 1300), some (.ref 0), some (.ref 81), some (.int (zI i))] [.int (zI (fBest a x1 x2 x3 x4 x5))] zS0 h1 (zQb zS0 fun b _ => b = true)
  refine r_aload_n (pc := 999) (a := 81) dL_law_999 rfl ?_
  refine r_aload_n (pc := 1000) (a := 1300) dL_law_1000 rfl ?_
  refine r_iload_n (pc := 1001) (x := i) dL_law_1001 rfl ?_
  refine r_iconst (pc := 1002) dL_law_1002 ?_
  refine r_iadd (pc := 1003) (x := i) (y := 1) dL_law_1003 ?_
  refine r_xald (pc := 1004) (ξ := ξ) (i := (i + 1)) (x := x1) rfl dL_law_1004 ⟨by omega, by omega, by omega⟩ e1 ?_
  refine r_aload_n (pc := 1005) (a := 1300) dL_law_1005 rfl ?_
  refine r_iload_n (pc := 1006) (x := i) dL_law_1006 rfl ?_
  refine r_iconst (pc := 1007) dL_law_1007 ?_
  refine r_iadd (pc := 1008) (x := i) (y := 2) dL_law_1008 ?_
  refine r_xald (pc := 1009) (ξ := ξ) (i := (i + 2)) (x := x2) rfl dL_law_1009 ⟨by omega, by omega, by omega⟩ e2 ?_
  refine r_aload_n (pc := 1010) (a := 1300) dL_law_1010 rfl ?_
  refine r_iload_n (pc := 1011) (x := i) dL_law_1011 rfl ?_
  refine r_iconst (pc := 1012) dL_law_1012 ?_
  refine r_iadd (pc := 1013) (x := i) (y := 3) dL_law_1013 ?_
  refine r_xald (pc := 1014) (ξ := ξ) (i := (i + 3)) (x := x3) rfl dL_law_1014 ⟨by omega, by omega, by omega⟩ e3 ?_
  refine r_aload_n (pc := 1015) (a := 1300) dL_law_1015 rfl ?_
  refine r_iload_n (pc := 1016) (x := i) dL_law_1016 rfl ?_
  refine r_iconst (pc := 1017) dL_law_1017 ?_
  refine r_iadd (pc := 1018) (x := i) (y := 4) dL_law_1018 ?_
  refine r_xald (pc := 1019) (ξ := ξ) (i := (i + 4)) (x := x4) rfl dL_law_1019 ⟨by omega, by omega, by omega⟩ e4 ?_
  refine r_aload_n (pc := 1020) (a := 1300) dL_law_1020 rfl ?_
  refine r_iload_n (pc := 1021) (x := i) dL_law_1021 rfl ?_
  refine r_iconst (pc := 1022) dL_law_1022 ?_
  refine r_iadd (pc := 1023) (x := i) (y := 5) dL_law_1023 ?_
  refine r_xald (pc := 1024) (ξ := ξ) (i := (i + 5)) (x := x5) rfl dL_law_1024 ⟨by omega, by omega, by omega⟩ e5 ?_
  refine r_callV (μ2 := mX12_best) (pc := 1025) (as := [.int (zI x1), .int (zI x2), .int (zI x3), .int (zI x4), .int (zI x5)]) (st := [.int (zI (fBest a x1 x2 x3 x4 x5))]) rfl s0_81 ml_L_132 im_X12_best se_X12_best okX12_best ⟨Nat.le_of_ble_eq_true rfl, Nat.le_of_ble_eq_true rfl⟩ dL_law_1025 (Nat.le_of_ble_eq_true rfl) rfl (Nat.le_of_ble_eq_true rfl) (Nat.le_of_ble_eq_true rfl) (Nat.le_of_ble_eq_true rfl) (zCC.mono (mBest (M.hi f1) r1 r2 r3 r4 r5 (K := (fun x y => x = (fBest a x1 x2 x3 x4 x5) ∧ MR a y ∧ zLo81 h1 y)) (fun h' c f => ⟨rfl, c, f⟩)) ?_)
  rintro r S' h2 ⟨rfl, q2, hr2, rfl, M2, f2⟩
  subst hr2
  show RR (mL ξ) 108 32136 1028 [some (.ref 1300), some (.ref 0), some (.ref 81), some (.int (zI i))] [.int (zI (fBest a x1 x2 x3 x4 x5)), .int (zI (fBest a x1 x2 x3 x4 x5))] zS0 h2 (zQb zS0 fun b _ => b = true)
  refine q_icmp (pc := 1028) (x := (fBest a x1 x2 x3 x4 x5)) (tgt := 1421) dL_law_1028 (by decide) ?_
  exact hG _ _ W (C1.lo f2) M2
set_option maxRecDepth 100000 in
set_option maxHeartbeats 4000000 in
theorem lc_odds {ξ : Nat × (Nat → Int)} {a h : zMm} {i : Int} {x1 : Int} {x2 : Int} {x3 : Int} {x4 : Int} {x5 : Int} (W : WF a) (C : CR a h) (M : MR a h) (hi : 0 ≤ i ∧ i + 7 ≤ (ξ.1 : Int) ∧ ξ.1 ≤ 3584) (e1 : ξ.2 (i + 1).toNat = x1) (r1 : zR x1) (e2 : ξ.2 (i + 2).toNat = x2) (r2 : zR x2) (e3 : ξ.2 (i + 3).toNat = x3) (r3 : zR x3) (e4 : ξ.2 (i + 4).toNat = x4) (r4 : zR x4) (e5 : ξ.2 (i + 5).toNat = x5) (r5 : zR x5) (hG : lGo ξ i) : RR (mL ξ) 108 32136 1033 [some (.ref 1300), some (.ref 0), some (.ref 81), some (.int (zI i))] [] zS0 h (zQb zS0 fun b _ => b = true) := by
  refine r_aload_n (pc := 1033) (a := 0) dL_law_1033 rfl ?_
  refine r_aload_n (pc := 1034) (a := 1300) dL_law_1034 rfl ?_
  refine r_iload_n (pc := 1035) (x := i) dL_law_1035 rfl ?_
  refine r_iconst (pc := 1036) dL_law_1036 ?_
  refine r_iadd (pc := 1037) (x := i) (y := 1) dL_law_1037 ?_
  refine r_xald (pc := 1038) (ξ := ξ) (i := (i + 1)) (x := x1) rfl dL_law_1038 ⟨by omega, by omega, by omega⟩ e1 ?_
  refine r_aload_n (pc := 1039) (a := 1300) dL_law_1039 rfl ?_
  refine r_iload_n (pc := 1040) (x := i) dL_law_1040 rfl ?_
  refine r_iconst (pc := 1041) dL_law_1041 ?_
  refine r_iadd (pc := 1042) (x := i) (y := 2) dL_law_1042 ?_
  refine r_xald (pc := 1043) (ξ := ξ) (i := (i + 2)) (x := x2) rfl dL_law_1043 ⟨by omega, by omega, by omega⟩ e2 ?_
  refine r_aload_n (pc := 1044) (a := 1300) dL_law_1044 rfl ?_
  refine r_iload_n (pc := 1045) (x := i) dL_law_1045 rfl ?_
  refine r_iconst (pc := 1046) dL_law_1046 ?_
  refine r_iadd (pc := 1047) (x := i) (y := 3) dL_law_1047 ?_
  refine r_xald (pc := 1048) (ξ := ξ) (i := (i + 3)) (x := x3) rfl dL_law_1048 ⟨by omega, by omega, by omega⟩ e3 ?_
  refine r_aload_n (pc := 1049) (a := 1300) dL_law_1049 rfl ?_
  refine r_iload_n (pc := 1050) (x := i) dL_law_1050 rfl ?_
  refine r_iconst (pc := 1051) dL_law_1051 ?_
  refine r_iadd (pc := 1052) (x := i) (y := 4) dL_law_1052 ?_
  refine r_xald (pc := 1053) (ξ := ξ) (i := (i + 4)) (x := x4) rfl dL_law_1053 ⟨by omega, by omega, by omega⟩ e4 ?_
  refine r_aload_n (pc := 1054) (a := 1300) dL_law_1054 rfl ?_
  refine r_iload_n (pc := 1055) (x := i) dL_law_1055 rfl ?_
  refine r_iconst (pc := 1056) dL_law_1056 ?_
  refine r_iadd (pc := 1057) (x := i) (y := 5) dL_law_1057 ?_
  refine r_xald (pc := 1058) (ξ := ξ) (i := (i + 5)) (x := x5) rfl dL_law_1058 ⟨by omega, by omega, by omega⟩ e5 ?_
  refine r_callV (μ2 := mX11_odds) (pc := 1059) (as := [.int (zI x1), .int (zI x2), .int (zI x3), .int (zI x4), .int (zI x5)]) (st := []) rfl s0_0 ml_L_133 im_X11_odds se_X11_odds okX11_odds ⟨Nat.le_of_ble_eq_true rfl, Nat.le_of_ble_eq_true rfl⟩ dL_law_1059 (Nat.le_of_ble_eq_true rfl) rfl (Nat.le_of_ble_eq_true rfl) (Nat.le_of_ble_eq_true rfl) (Nat.le_of_ble_eq_true rfl) (zCC.mono (cOdds C r1 r2 r3 r4 r5 (K := (fun x y => x = (fOdds a x1 x2 x3 x4 x5) ∧ CR a y ∧ zHi81 h y)) (fun h' c f => ⟨rfl, c, f⟩)) ?_)
  rintro r S' h1 ⟨rfl, q1, hr1, rfl, C1, f1⟩
  subst hr1
  show RR (mL ξ) 108 32136 1062 [some (.ref 1300), some (.ref 0), some (.ref 81), some (.int (zI i))] [.long (zJ (fOdds a x1 x2 x3 x4 x5))] zS0 h1 (zQb zS0 fun b _ => b = true)
  refine r_aload_n (pc := 1062) (a := 81) dL_law_1062 rfl ?_
  refine r_aload_n (pc := 1063) (a := 1300) dL_law_1063 rfl ?_
  refine r_iload_n (pc := 1064) (x := i) dL_law_1064 rfl ?_
  refine r_iconst (pc := 1065) dL_law_1065 ?_
  refine r_iadd (pc := 1066) (x := i) (y := 1) dL_law_1066 ?_
  refine r_xald (pc := 1067) (ξ := ξ) (i := (i + 1)) (x := x1) rfl dL_law_1067 ⟨by omega, by omega, by omega⟩ e1 ?_
  refine r_aload_n (pc := 1068) (a := 1300) dL_law_1068 rfl ?_
  refine r_iload_n (pc := 1069) (x := i) dL_law_1069 rfl ?_
  refine r_iconst (pc := 1070) dL_law_1070 ?_
  refine r_iadd (pc := 1071) (x := i) (y := 2) dL_law_1071 ?_
  refine r_xald (pc := 1072) (ξ := ξ) (i := (i + 2)) (x := x2) rfl dL_law_1072 ⟨by omega, by omega, by omega⟩ e2 ?_
  refine r_aload_n (pc := 1073) (a := 1300) dL_law_1073 rfl ?_
  refine r_iload_n (pc := 1074) (x := i) dL_law_1074 rfl ?_
  refine r_iconst (pc := 1075) dL_law_1075 ?_
  refine r_iadd (pc := 1076) (x := i) (y := 3) dL_law_1076 ?_
  refine r_xald (pc := 1077) (ξ := ξ) (i := (i + 3)) (x := x3) rfl dL_law_1077 ⟨by omega, by omega, by omega⟩ e3 ?_
  refine r_aload_n (pc := 1078) (a := 1300) dL_law_1078 rfl ?_
  refine r_iload_n (pc := 1079) (x := i) dL_law_1079 rfl ?_
  refine r_iconst (pc := 1080) dL_law_1080 ?_
  refine r_iadd (pc := 1081) (x := i) (y := 4) dL_law_1081 ?_
  refine r_xald (pc := 1082) (ξ := ξ) (i := (i + 4)) (x := x4) rfl dL_law_1082 ⟨by omega, by omega, by omega⟩ e4 ?_
  refine r_aload_n (pc := 1083) (a := 1300) dL_law_1083 rfl ?_
  refine r_iload_n (pc := 1084) (x := i) dL_law_1084 rfl ?_
  refine r_iconst (pc := 1085) dL_law_1085 ?_
  refine r_iadd (pc := 1086) (x := i) (y := 5) dL_law_1086 ?_
  refine r_xald (pc := 1087) (ξ := ξ) (i := (i + 5)) (x := x5) rfl dL_law_1087 ⟨by omega, by omega, by omega⟩ e5 ?_
  refine r_callV (μ2 := mX12_odds) (pc := 1088) (as := [.int (zI x1), .int (zI x2), .int (zI x3), .int (zI x4), .int (zI x5)]) (st := [.long (zJ (fOdds a x1 x2 x3 x4 x5))]) rfl s0_81 ml_L_137 im_X12_odds se_X12_odds okX12_odds ⟨Nat.le_of_ble_eq_true rfl, Nat.le_of_ble_eq_true rfl⟩ dL_law_1088 (Nat.le_of_ble_eq_true rfl) rfl (Nat.le_of_ble_eq_true rfl) (Nat.le_of_ble_eq_true rfl) (Nat.le_of_ble_eq_true rfl) (zCC.mono (mOdds (M.hi f1) r1 r2 r3 r4 r5 (K := (fun x y => x = (fOdds a x1 x2 x3 x4 x5) ∧ MR a y ∧ zLo81 h1 y)) (fun h' c f => ⟨rfl, c, f⟩)) ?_)
  rintro r S' h2 ⟨rfl, q2, hr2, rfl, M2, f2⟩
  subst hr2
  show RR (mL ξ) 108 32136 1091 [some (.ref 1300), some (.ref 0), some (.ref 81), some (.int (zI i))] [.long (zJ (fOdds a x1 x2 x3 x4 x5)), .long (zJ (fOdds a x1 x2 x3 x4 x5))] zS0 h2 (zQb zS0 fun b _ => b = true)
  refine q_lcmp (pc := 1091) (x := (fOdds a x1 x2 x3 x4 x5)) dL_law_1091 ?_
  refine r_if_eq (pc := 1092) (x := 0) (tgt := 1421) dL_law_1092 (by decide) (by decide) (fun _ => ?_) (fun c => absurd rfl c)
  exact hG _ _ W (C1.lo f2) M2
set_option maxRecDepth 100000 in
set_option maxHeartbeats 4000000 in
theorem lc_week {ξ : Nat × (Nat → Int)} {a h : zMm} {i : Int} {x1 : Int} (W : WF a) (C : CR a h) (M : MR a h) (hi : 0 ≤ i ∧ i + 7 ≤ (ξ.1 : Int) ∧ ξ.1 ≤ 3584) (e1 : ξ.2 (i + 1).toNat = x1) (r1 : zR x1) (hG : lGo ξ i) : RR (mL ξ) 108 32136 1097 [some (.ref 1300), some (.ref 0), some (.ref 81), some (.int (zI i))] [] zS0 h (zQb zS0 fun b _ => b = true) := by
  refine r_aload_n (pc := 1097) (a := 0) dL_law_1097 rfl ?_
  refine r_aload_n (pc := 1098) (a := 1300) dL_law_1098 rfl ?_
  refine r_iload_n (pc := 1099) (x := i) dL_law_1099 rfl ?_
  refine r_iconst (pc := 1100) dL_law_1100 ?_
  refine r_iadd (pc := 1101) (x := i) (y := 1) dL_law_1101 ?_
  refine r_xald (pc := 1102) (ξ := ξ) (i := (i + 1)) (x := x1) rfl dL_law_1102 ⟨by omega, by omega, by omega⟩ e1 ?_
  refine r_callV (μ2 := mX11_week) (pc := 1103) (as := [.int (zI x1)]) (st := []) rfl s0_0 ml_L_138 im_X11_week se_X11_week okX11_week ⟨Nat.le_of_ble_eq_true rfl, Nat.le_of_ble_eq_true rfl⟩ dL_law_1103 (Nat.le_of_ble_eq_true rfl) rfl (Nat.le_of_ble_eq_true rfl) (Nat.le_of_ble_eq_true rfl) (Nat.le_of_ble_eq_true rfl) (zCC.mono (cWeek W C r1 (K := (fun x y => x = (fWeek a x1) ∧ CR (aWeek a x1) y ∧ zHi81 h y)) (fun h' c f => ⟨rfl, c, f⟩)) ?_)
  rintro r S' h1 ⟨rfl, q1, hr1, rfl, C1, f1⟩
  subst hr1
  show RR (mL ξ) 108 32136 1106 [some (.ref 1300), some (.ref 0), some (.ref 81), some (.int (zI i))] [.int (zI (fWeek a x1))] zS0 h1 (zQb zS0 fun b _ => b = true)
  refine r_aload_n (pc := 1106) (a := 81) dL_law_1106 rfl ?_
  refine r_aload_n (pc := 1107) (a := 1300) dL_law_1107 rfl ?_
  refine r_iload_n (pc := 1108) (x := i) dL_law_1108 rfl ?_
  refine r_iconst (pc := 1109) dL_law_1109 ?_
  refine r_iadd (pc := 1110) (x := i) (y := 1) dL_law_1110 ?_
  refine r_xald (pc := 1111) (ξ := ξ) (i := (i + 1)) (x := x1) rfl dL_law_1111 ⟨by omega, by omega, by omega⟩ e1 ?_
  refine r_callV (μ2 := mX12_week) (pc := 1112) (as := [.int (zI x1)]) (st := [.int (zI (fWeek a x1))]) rfl s0_81 ml_L_141 im_X12_week se_X12_week okX12_week ⟨Nat.le_of_ble_eq_true rfl, Nat.le_of_ble_eq_true rfl⟩ dL_law_1112 (Nat.le_of_ble_eq_true rfl) rfl (Nat.le_of_ble_eq_true rfl) (Nat.le_of_ble_eq_true rfl) (Nat.le_of_ble_eq_true rfl) (zCC.mono (mWeek W (M.hi f1) r1 (K := (fun x y => x = (fWeek a x1) ∧ MR (aWeek a x1) y ∧ zLo81 h1 y)) (fun h' c f => ⟨rfl, c, f⟩)) ?_)
  rintro r S' h2 ⟨rfl, q2, hr2, rfl, M2, f2⟩
  subst hr2
  show RR (mL ξ) 108 32136 1115 [some (.ref 1300), some (.ref 0), some (.ref 81), some (.int (zI i))] [.int (zI (fWeek a x1)), .int (zI (fWeek a x1))] zS0 h2 (zQb zS0 fun b _ => b = true)
  refine q_icmp (pc := 1115) (x := (fWeek a x1)) (tgt := 1421) dL_law_1115 (by decide) ?_
  exact hG _ _ (wWeek W) (C1.lo f2) M2
set_option maxRecDepth 100000 in
set_option maxHeartbeats 4000000 in
theorem lc_high {ξ : Nat × (Nat → Int)} {a h : zMm} {i : Int} {x1 : Int} {x2 : Int} (W : WF a) (C : CR a h) (M : MR a h) (hi : 0 ≤ i ∧ i + 7 ≤ (ξ.1 : Int) ∧ ξ.1 ≤ 3584) (e1 : ξ.2 (i + 1).toNat = x1) (r1 : zR x1) (e2 : ξ.2 (i + 2).toNat = x2) (r2 : zR x2) (hG : lGo ξ i) : RR (mL ξ) 108 32136 1120 [some (.ref 1300), some (.ref 0), some (.ref 81), some (.int (zI i))] [] zS0 h (zQb zS0 fun b _ => b = true) := by
  refine r_aload_n (pc := 1120) (a := 0) dL_law_1120 rfl ?_
  refine r_aload_n (pc := 1121) (a := 1300) dL_law_1121 rfl ?_
  refine r_iload_n (pc := 1122) (x := i) dL_law_1122 rfl ?_
  refine r_iconst (pc := 1123) dL_law_1123 ?_
  refine r_iadd (pc := 1124) (x := i) (y := 1) dL_law_1124 ?_
  refine r_xald (pc := 1125) (ξ := ξ) (i := (i + 1)) (x := x1) rfl dL_law_1125 ⟨by omega, by omega, by omega⟩ e1 ?_
  refine r_aload_n (pc := 1126) (a := 1300) dL_law_1126 rfl ?_
  refine r_iload_n (pc := 1127) (x := i) dL_law_1127 rfl ?_
  refine r_iconst (pc := 1128) dL_law_1128 ?_
  refine r_iadd (pc := 1129) (x := i) (y := 2) dL_law_1129 ?_
  refine r_xald (pc := 1130) (ξ := ξ) (i := (i + 2)) (x := x2) rfl dL_law_1130 ⟨by omega, by omega, by omega⟩ e2 ?_
  refine r_callV (μ2 := mX11_high) (pc := 1131) (as := [.int (zI x1), .int (zI x2)]) (st := []) rfl s0_0 ml_L_142 im_X11_high se_X11_high okX11_high ⟨Nat.le_of_ble_eq_true rfl, Nat.le_of_ble_eq_true rfl⟩ dL_law_1131 (Nat.le_of_ble_eq_true rfl) rfl (Nat.le_of_ble_eq_true rfl) (Nat.le_of_ble_eq_true rfl) (Nat.le_of_ble_eq_true rfl) (zCC.mono (cHigh W C r1 r2 (K := (fun x y => x = (fHigh a x1 x2) ∧ CR a y ∧ zHi81 h y)) ⟨rfl, C, fun _ _ => rfl⟩) ?_)
  rintro r S' h1 ⟨rfl, q1, hr1, rfl, C1, f1⟩
  subst hr1
  show RR (mL ξ) 108 32136 1134 [some (.ref 1300), some (.ref 0), some (.ref 81), some (.int (zI i))] [.long (zJ (fHigh a x1 x2))] zS0 h1 (zQb zS0 fun b _ => b = true)
  refine r_aload_n (pc := 1134) (a := 81) dL_law_1134 rfl ?_
  refine r_aload_n (pc := 1135) (a := 1300) dL_law_1135 rfl ?_
  refine r_iload_n (pc := 1136) (x := i) dL_law_1136 rfl ?_
  refine r_iconst (pc := 1137) dL_law_1137 ?_
  refine r_iadd (pc := 1138) (x := i) (y := 1) dL_law_1138 ?_
  refine r_xald (pc := 1139) (ξ := ξ) (i := (i + 1)) (x := x1) rfl dL_law_1139 ⟨by omega, by omega, by omega⟩ e1 ?_
  refine r_aload_n (pc := 1140) (a := 1300) dL_law_1140 rfl ?_
  refine r_iload_n (pc := 1141) (x := i) dL_law_1141 rfl ?_
  refine r_iconst (pc := 1142) dL_law_1142 ?_
  refine r_iadd (pc := 1143) (x := i) (y := 2) dL_law_1143 ?_
  refine r_xald (pc := 1144) (ξ := ξ) (i := (i + 2)) (x := x2) rfl dL_law_1144 ⟨by omega, by omega, by omega⟩ e2 ?_
  refine r_callV (μ2 := mX12_high) (pc := 1145) (as := [.int (zI x1), .int (zI x2)]) (st := [.long (zJ (fHigh a x1 x2))]) rfl s0_81 ml_L_145 im_X12_high se_X12_high okX12_high ⟨Nat.le_of_ble_eq_true rfl, Nat.le_of_ble_eq_true rfl⟩ dL_law_1145 (Nat.le_of_ble_eq_true rfl) rfl (Nat.le_of_ble_eq_true rfl) (Nat.le_of_ble_eq_true rfl) (Nat.le_of_ble_eq_true rfl) (zCC.mono (mHigh W (M.hi f1) r1 r2 (K := (fun x y => x = (fHigh a x1 x2) ∧ MR a y ∧ zLo81 h1 y)) (fun h' c f => ⟨rfl, c, f⟩)) ?_)
  rintro r S' h2 ⟨rfl, q2, hr2, rfl, M2, f2⟩
  subst hr2
  show RR (mL ξ) 108 32136 1148 [some (.ref 1300), some (.ref 0), some (.ref 81), some (.int (zI i))] [.long (zJ (fHigh a x1 x2)), .long (zJ (fHigh a x1 x2))] zS0 h2 (zQb zS0 fun b _ => b = true)
  refine q_lcmp (pc := 1148) (x := (fHigh a x1 x2)) dL_law_1148 ?_
  refine r_if_eq (pc := 1149) (x := 0) (tgt := 1421) dL_law_1149 (by decide) (by decide) (fun _ => ?_) (fun c => absurd rfl c)
  exact hG _ _ W (C1.lo f2) M2
set_option maxRecDepth 100000 in
set_option maxHeartbeats 4000000 in
theorem lc_weeks {ξ : Nat × (Nat → Int)} {a h : zMm} {i : Int} {x1 : Int} (W : WF a) (C : CR a h) (M : MR a h) (hi : 0 ≤ i ∧ i + 7 ≤ (ξ.1 : Int) ∧ ξ.1 ≤ 3584) (e1 : ξ.2 (i + 1).toNat = x1) (r1 : zR x1) (hG : lGo ξ i) : RR (mL ξ) 108 32136 1154 [some (.ref 1300), some (.ref 0), some (.ref 81), some (.int (zI i))] [] zS0 h (zQb zS0 fun b _ => b = true) := by
  refine r_aload_n (pc := 1154) (a := 0) dL_law_1154 rfl ?_
  refine r_aload_n (pc := 1155) (a := 1300) dL_law_1155 rfl ?_
  refine r_iload_n (pc := 1156) (x := i) dL_law_1156 rfl ?_
  refine r_iconst (pc := 1157) dL_law_1157 ?_
  refine r_iadd (pc := 1158) (x := i) (y := 1) dL_law_1158 ?_
  refine r_xald (pc := 1159) (ξ := ξ) (i := (i + 1)) (x := x1) rfl dL_law_1159 ⟨by omega, by omega, by omega⟩ e1 ?_
  refine r_callV (μ2 := mX11_weeks) (pc := 1160) (as := [.int (zI x1)]) (st := []) rfl s0_0 ml_L_146 im_X11_weeks se_X11_weeks okX11_weeks ⟨Nat.le_of_ble_eq_true rfl, Nat.le_of_ble_eq_true rfl⟩ dL_law_1160 (Nat.le_of_ble_eq_true rfl) rfl (Nat.le_of_ble_eq_true rfl) (Nat.le_of_ble_eq_true rfl) (Nat.le_of_ble_eq_true rfl) (zCC.mono (cWeeks W C r1 (K := (fun x y => x = (fWeeks a x1) ∧ CR a y ∧ zHi81 h y)) ⟨rfl, C, fun _ _ => rfl⟩) ?_)
  rintro r S' h1 ⟨rfl, q1, hr1, rfl, C1, f1⟩
  subst hr1
  show RR (mL ξ) 108 32136 1163 [some (.ref 1300), some (.ref 0), some (.ref 81), some (.int (zI i))] [.int (zI (fWeeks a x1))] zS0 h1 (zQb zS0 fun b _ => b = true)
  refine r_aload_n (pc := 1163) (a := 81) dL_law_1163 rfl ?_
  refine r_aload_n (pc := 1164) (a := 1300) dL_law_1164 rfl ?_
  refine r_iload_n (pc := 1165) (x := i) dL_law_1165 rfl ?_
  refine r_iconst (pc := 1166) dL_law_1166 ?_
  refine r_iadd (pc := 1167) (x := i) (y := 1) dL_law_1167 ?_
  refine r_xald (pc := 1168) (ξ := ξ) (i := (i + 1)) (x := x1) rfl dL_law_1168 ⟨by omega, by omega, by omega⟩ e1 ?_
  refine r_callV (μ2 := mX12_weeks) (pc := 1169) (as := [.int (zI x1)]) (st := [.int (zI (fWeeks a x1))]) rfl s0_81 ml_L_149 im_X12_weeks se_X12_weeks okX12_weeks ⟨Nat.le_of_ble_eq_true rfl, Nat.le_of_ble_eq_true rfl⟩ dL_law_1169 (Nat.le_of_ble_eq_true rfl) rfl (Nat.le_of_ble_eq_true rfl) (Nat.le_of_ble_eq_true rfl) (Nat.le_of_ble_eq_true rfl) (zCC.mono (mWeeks W (M.hi f1) r1 (K := (fun x y => x = (fWeeks a x1) ∧ MR a y ∧ zLo81 h1 y)) (fun h' c f => ⟨rfl, c, f⟩)) ?_)
  rintro r S' h2 ⟨rfl, q2, hr2, rfl, M2, f2⟩
  subst hr2
  show RR (mL ξ) 108 32136 1172 [some (.ref 1300), some (.ref 0), some (.ref 81), some (.int (zI i))] [.int (zI (fWeeks a x1)), .int (zI (fWeeks a x1))] zS0 h2 (zQb zS0 fun b _ => b = true)
  refine q_icmp (pc := 1172) (x := (fWeeks a x1)) (tgt := 1421) dL_law_1172 (by decide) ?_
  exact hG _ _ W (C1.lo f2) M2
set_option maxRecDepth 100000 in
set_option maxHeartbeats 4000000 in
theorem lc_stripes {ξ : Nat × (Nat → Int)} {a h : zMm} {i : Int} {x1 : Int} (W : WF a) (C : CR a h) (M : MR a h) (hi : 0 ≤ i ∧ i + 7 ≤ (ξ.1 : Int) ∧ ξ.1 ≤ 3584) (e1 : ξ.2 (i + 1).toNat = x1) (r1 : zR x1) (hG : lGo ξ i) : RR (mL ξ) 108 32136 1177 [some (.ref 1300), some (.ref 0), some (.ref 81), some (.int (zI i))] [] zS0 h (zQb zS0 fun b _ => b = true) := by
  refine r_aload_n (pc := 1177) (a := 0) dL_law_1177 rfl ?_
  refine r_aload_n (pc := 1178) (a := 1300) dL_law_1178 rfl ?_
  refine r_iload_n (pc := 1179) (x := i) dL_law_1179 rfl ?_
  refine r_iconst (pc := 1180) dL_law_1180 ?_
  refine r_iadd (pc := 1181) (x := i) (y := 1) dL_law_1181 ?_
  refine r_xald (pc := 1182) (ξ := ξ) (i := (i + 1)) (x := x1) rfl dL_law_1182 ⟨by omega, by omega, by omega⟩ e1 ?_
  refine r_callV (μ2 := mX11_stripes) (pc := 1183) (as := [.int (zI x1)]) (st := []) rfl s0_0 ml_L_150 im_X11_stripes se_X11_stripes okX11_stripes ⟨Nat.le_of_ble_eq_true rfl, Nat.le_of_ble_eq_true rfl⟩ dL_law_1183 (Nat.le_of_ble_eq_true rfl) rfl (Nat.le_of_ble_eq_true rfl) (Nat.le_of_ble_eq_true rfl) (Nat.le_of_ble_eq_true rfl) (zCC.mono (cStripes W C r1 (K := (fun x y => x = (fStripes a x1) ∧ CR a y ∧ zHi81 h y)) ⟨rfl, C, fun _ _ => rfl⟩) ?_)
  rintro r S' h1 ⟨rfl, q1, hr1, rfl, C1, f1⟩
  subst hr1
  show RR (mL ξ) 108 32136 1186 [some (.ref 1300), some (.ref 0), some (.ref 81), some (.int (zI i))] [.int (zI (fStripes a x1))] zS0 h1 (zQb zS0 fun b _ => b = true)
  refine r_aload_n (pc := 1186) (a := 81) dL_law_1186 rfl ?_
  refine r_aload_n (pc := 1187) (a := 1300) dL_law_1187 rfl ?_
  refine r_iload_n (pc := 1188) (x := i) dL_law_1188 rfl ?_
  refine r_iconst (pc := 1189) dL_law_1189 ?_
  refine r_iadd (pc := 1190) (x := i) (y := 1) dL_law_1190 ?_
  refine r_xald (pc := 1191) (ξ := ξ) (i := (i + 1)) (x := x1) rfl dL_law_1191 ⟨by omega, by omega, by omega⟩ e1 ?_
  refine r_callV (μ2 := mX12_stripes) (pc := 1192) (as := [.int (zI x1)]) (st := [.int (zI (fStripes a x1))]) rfl s0_81 ml_L_153 im_X12_stripes se_X12_stripes okX12_stripes ⟨Nat.le_of_ble_eq_true rfl, Nat.le_of_ble_eq_true rfl⟩ dL_law_1192 (Nat.le_of_ble_eq_true rfl) rfl (Nat.le_of_ble_eq_true rfl) (Nat.le_of_ble_eq_true rfl) (Nat.le_of_ble_eq_true rfl) (zCC.mono (mStripes W (M.hi f1) r1 (K := (fun x y => x = (fStripes a x1) ∧ MR a y ∧ zLo81 h1 y)) (fun h' c f => ⟨rfl, c, f⟩)) ?_)
  rintro r S' h2 ⟨rfl, q2, hr2, rfl, M2, f2⟩
  subst hr2
  show RR (mL ξ) 108 32136 1195 [some (.ref 1300), some (.ref 0), some (.ref 81), some (.int (zI i))] [.int (zI (fStripes a x1)), .int (zI (fStripes a x1))] zS0 h2 (zQb zS0 fun b _ => b = true)
  refine q_icmp (pc := 1195) (x := (fStripes a x1)) (tgt := 1421) dL_law_1195 (by decide) ?_
  exact hG _ _ W (C1.lo f2) M2
set_option maxRecDepth 100000 in
set_option maxHeartbeats 4000000 in
theorem lc_keep {ξ : Nat × (Nat → Int)} {a h : zMm} {i : Int} {x1 : Int} (W : WF a) (C : CR a h) (M : MR a h) (hi : 0 ≤ i ∧ i + 7 ≤ (ξ.1 : Int) ∧ ξ.1 ≤ 3584) (e1 : ξ.2 (i + 1).toNat = x1) (r1 : zR x1) (hG : lGo ξ i) : RR (mL ξ) 108 32136 1200 [some (.ref 1300), some (.ref 0), some (.ref 81), some (.int (zI i))] [] zS0 h (zQb zS0 fun b _ => b = true) := by
  refine r_aload_n (pc := 1200) (a := 0) dL_law_1200 rfl ?_
  refine r_aload_n (pc := 1201) (a := 1300) dL_law_1201 rfl ?_
  refine r_iload_n (pc := 1202) (x := i) dL_law_1202 rfl ?_
  refine r_iconst (pc := 1203) dL_law_1203 ?_
  refine r_iadd (pc := 1204) (x := i) (y := 1) dL_law_1204 ?_
  refine r_xald (pc := 1205) (ξ := ξ) (i := (i + 1)) (x := x1) rfl dL_law_1205 ⟨by omega, by omega, by omega⟩ e1 ?_
  refine r_callV (μ2 := mX11_keep) (pc := 1206) (as := [.int (zI x1)]) (st := []) rfl s0_0 ml_L_154 im_X11_keep se_X11_keep okX11_keep ⟨Nat.le_of_ble_eq_true rfl, Nat.le_of_ble_eq_true rfl⟩ dL_law_1206 (Nat.le_of_ble_eq_true rfl) rfl (Nat.le_of_ble_eq_true rfl) (Nat.le_of_ble_eq_true rfl) (Nat.le_of_ble_eq_true rfl) (zCC.mono (cKeep W C r1 (K := (fun x y => x = (fKeep a x1) ∧ CR (aKeep a x1) y ∧ zHi81 h y)) (fun h' c f => ⟨rfl, c, f⟩)) ?_)
  rintro r S' h1 ⟨rfl, q1, hr1, rfl, C1, f1⟩
  subst hr1
  show RR (mL ξ) 108 32136 1209 [some (.ref 1300), some (.ref 0), some (.ref 81), some (.int (zI i))] [.int (zI (fKeep a x1))] zS0 h1 (zQb zS0 fun b _ => b = true)
  refine r_aload_n (pc := 1209) (a := 81) dL_law_1209 rfl ?_
  refine r_aload_n (pc := 1210) (a := 1300) dL_law_1210 rfl ?_
  refine r_iload_n (pc := 1211) (x := i) dL_law_1211 rfl ?_
  refine r_iconst (pc := 1212) dL_law_1212 ?_
  refine r_iadd (pc := 1213) (x := i) (y := 1) dL_law_1213 ?_
  refine r_xald (pc := 1214) (ξ := ξ) (i := (i + 1)) (x := x1) rfl dL_law_1214 ⟨by omega, by omega, by omega⟩ e1 ?_
  refine r_callV (μ2 := mX12_keep) (pc := 1215) (as := [.int (zI x1)]) (st := [.int (zI (fKeep a x1))]) rfl s0_81 ml_L_157 im_X12_keep se_X12_keep okX12_keep ⟨Nat.le_of_ble_eq_true rfl, Nat.le_of_ble_eq_true rfl⟩ dL_law_1215 (Nat.le_of_ble_eq_true rfl) rfl (Nat.le_of_ble_eq_true rfl) (Nat.le_of_ble_eq_true rfl) (Nat.le_of_ble_eq_true rfl) (zCC.mono (mKeep W (M.hi f1) r1 (K := (fun x y => x = (fKeep a x1) ∧ MR (aKeep a x1) y ∧ zLo81 h1 y)) (fun h' c f => ⟨rfl, c, f⟩)) ?_)
  rintro r S' h2 ⟨rfl, q2, hr2, rfl, M2, f2⟩
  subst hr2
  show RR (mL ξ) 108 32136 1218 [some (.ref 1300), some (.ref 0), some (.ref 81), some (.int (zI i))] [.int (zI (fKeep a x1)), .int (zI (fKeep a x1))] zS0 h2 (zQb zS0 fun b _ => b = true)
  refine q_icmp (pc := 1218) (x := (fKeep a x1)) (tgt := 1421) dL_law_1218 (by decide) ?_
  exact hG _ _ (wKeep W) (C1.lo f2) M2
set_option maxRecDepth 100000 in
set_option maxHeartbeats 4000000 in
theorem lc_back {ξ : Nat × (Nat → Int)} {a h : zMm} {i : Int} {x1 : Int} (W : WF a) (C : CR a h) (M : MR a h) (hi : 0 ≤ i ∧ i + 7 ≤ (ξ.1 : Int) ∧ ξ.1 ≤ 3584) (e1 : ξ.2 (i + 1).toNat = x1) (r1 : zR x1) (hG : lGo ξ i) : RR (mL ξ) 108 32136 1223 [some (.ref 1300), some (.ref 0), some (.ref 81), some (.int (zI i))] [] zS0 h (zQb zS0 fun b _ => b = true) := by
  refine r_aload_n (pc := 1223) (a := 0) dL_law_1223 rfl ?_
  refine r_aload_n (pc := 1224) (a := 1300) dL_law_1224 rfl ?_
  refine r_iload_n (pc := 1225) (x := i) dL_law_1225 rfl ?_
  refine r_iconst (pc := 1226) dL_law_1226 ?_
  refine r_iadd (pc := 1227) (x := i) (y := 1) dL_law_1227 ?_
  refine r_xald (pc := 1228) (ξ := ξ) (i := (i + 1)) (x := x1) rfl dL_law_1228 ⟨by omega, by omega, by omega⟩ e1 ?_
  refine r_callV (μ2 := mX11_back) (pc := 1229) (as := [.int (zI x1)]) (st := []) rfl s0_0 ml_L_158 im_X11_back se_X11_back okX11_back ⟨Nat.le_of_ble_eq_true rfl, Nat.le_of_ble_eq_true rfl⟩ dL_law_1229 (Nat.le_of_ble_eq_true rfl) rfl (Nat.le_of_ble_eq_true rfl) (Nat.le_of_ble_eq_true rfl) (Nat.le_of_ble_eq_true rfl) (zCC.mono (cBack W C r1 (K := (fun x y => x = (fBack a x1) ∧ CR (aBack a x1) y ∧ zHi81 h y)) (fun h' c f => ⟨rfl, c, f⟩)) ?_)
  rintro r S' h1 ⟨rfl, q1, hr1, rfl, C1, f1⟩
  subst hr1
  show RR (mL ξ) 108 32136 1232 [some (.ref 1300), some (.ref 0), some (.ref 81), some (.int (zI i))] [.int (zI (fBack a x1))] zS0 h1 (zQb zS0 fun b _ => b = true)
  refine r_aload_n (pc := 1232) (a := 81) dL_law_1232 rfl ?_
  refine r_aload_n (pc := 1233) (a := 1300) dL_law_1233 rfl ?_
  refine r_iload_n (pc := 1234) (x := i) dL_law_1234 rfl ?_
  refine r_iconst (pc := 1235) dL_law_1235 ?_
  refine r_iadd (pc := 1236) (x := i) (y := 1) dL_law_1236 ?_
  refine r_xald (pc := 1237) (ξ := ξ) (i := (i + 1)) (x := x1) rfl dL_law_1237 ⟨by omega, by omega, by omega⟩ e1 ?_
  refine r_callV (μ2 := mX12_back) (pc := 1238) (as := [.int (zI x1)]) (st := [.int (zI (fBack a x1))]) rfl s0_81 ml_L_161 im_X12_back se_X12_back okX12_back ⟨Nat.le_of_ble_eq_true rfl, Nat.le_of_ble_eq_true rfl⟩ dL_law_1238 (Nat.le_of_ble_eq_true rfl) rfl (Nat.le_of_ble_eq_true rfl) (Nat.le_of_ble_eq_true rfl) (Nat.le_of_ble_eq_true rfl) (zCC.mono (mBack W (M.hi f1) r1 (K := (fun x y => x = (fBack a x1) ∧ MR (aBack a x1) y ∧ zLo81 h1 y)) (fun h' c f => ⟨rfl, c, f⟩)) ?_)
  rintro r S' h2 ⟨rfl, q2, hr2, rfl, M2, f2⟩
  subst hr2
  show RR (mL ξ) 108 32136 1241 [some (.ref 1300), some (.ref 0), some (.ref 81), some (.int (zI i))] [.int (zI (fBack a x1)), .int (zI (fBack a x1))] zS0 h2 (zQb zS0 fun b _ => b = true)
  refine q_icmp (pc := 1241) (x := (fBack a x1)) (tgt := 1421) dL_law_1241 (by decide) ?_
  exact hG _ _ (wBack W) (C1.lo f2) M2
set_option maxRecDepth 100000 in
set_option maxHeartbeats 4000000 in
theorem lc_sheet {ξ : Nat × (Nat → Int)} {a h : zMm} {i : Int} {x1 : Int} {x2 : Int} {x3 : Int} (W : WF a) (C : CR a h) (M : MR a h) (hi : 0 ≤ i ∧ i + 7 ≤ (ξ.1 : Int) ∧ ξ.1 ≤ 3584) (e1 : ξ.2 (i + 1).toNat = x1) (r1 : zR x1) (e2 : ξ.2 (i + 2).toNat = x2) (r2 : zR x2) (e3 : ξ.2 (i + 3).toNat = x3) (r3 : zR x3) (hG : lGo ξ i) : RR (mL ξ) 108 32136 1246 [some (.ref 1300), some (.ref 0), some (.ref 81), some (.int (zI i))] [] zS0 h (zQb zS0 fun b _ => b = true) := by
  refine r_aload_n (pc := 1246) (a := 0) dL_law_1246 rfl ?_
  refine r_aload_n (pc := 1247) (a := 1300) dL_law_1247 rfl ?_
  refine r_iload_n (pc := 1248) (x := i) dL_law_1248 rfl ?_
  refine r_iconst (pc := 1249) dL_law_1249 ?_
  refine r_iadd (pc := 1250) (x := i) (y := 1) dL_law_1250 ?_
  refine r_xald (pc := 1251) (ξ := ξ) (i := (i + 1)) (x := x1) rfl dL_law_1251 ⟨by omega, by omega, by omega⟩ e1 ?_
  refine r_aload_n (pc := 1252) (a := 1300) dL_law_1252 rfl ?_
  refine r_iload_n (pc := 1253) (x := i) dL_law_1253 rfl ?_
  refine r_iconst (pc := 1254) dL_law_1254 ?_
  refine r_iadd (pc := 1255) (x := i) (y := 2) dL_law_1255 ?_
  refine r_xald (pc := 1256) (ξ := ξ) (i := (i + 2)) (x := x2) rfl dL_law_1256 ⟨by omega, by omega, by omega⟩ e2 ?_
  refine r_aload_n (pc := 1257) (a := 1300) dL_law_1257 rfl ?_
  refine r_iload_n (pc := 1258) (x := i) dL_law_1258 rfl ?_
  refine r_iconst (pc := 1259) dL_law_1259 ?_
  refine r_iadd (pc := 1260) (x := i) (y := 3) dL_law_1260 ?_
  refine r_xald (pc := 1261) (ξ := ξ) (i := (i + 3)) (x := x3) rfl dL_law_1261 ⟨by omega, by omega, by omega⟩ e3 ?_
  refine r_callV (μ2 := mX11_sheet) (pc := 1262) (as := [.int (zI x1), .int (zI x2), .int (zI x3)]) (st := []) rfl s0_0 ml_L_162 im_X11_sheet se_X11_sheet okX11_sheet ⟨Nat.le_of_ble_eq_true rfl, Nat.le_of_ble_eq_true rfl⟩ dL_law_1262 (Nat.le_of_ble_eq_true rfl) rfl (Nat.le_of_ble_eq_true rfl) (Nat.le_of_ble_eq_true rfl) (Nat.le_of_ble_eq_true rfl) (zCC.mono (cSheet C r1 r2 r3 (K := (fun x y => x = (fSheet x1 x2 x3) ∧ CR (aSheet a x1 x2 x3) y ∧ zHi81 h y)) (fun h' c f => ⟨rfl, c, f⟩)) ?_)
  rintro r S' h1 ⟨rfl, q1, hr1, rfl, C1, f1⟩
  subst hr1
  show RR (mL ξ) 108 32136 1265 [some (.ref 1300), some (.ref 0), some (.ref 81), some (.int (zI i))] [.int (zI (fSheet x1 x2 x3))] zS0 h1 (zQb zS0 fun b _ => b = true)
  refine r_aload_n (pc := 1265) (a := 81) dL_law_1265 rfl ?_
  refine r_aload_n (pc := 1266) (a := 1300) dL_law_1266 rfl ?_
  refine r_iload_n (pc := 1267) (x := i) dL_law_1267 rfl ?_
  refine r_iconst (pc := 1268) dL_law_1268 ?_
  refine r_iadd (pc := 1269) (x := i) (y := 1) dL_law_1269 ?_
  refine r_xald (pc := 1270) (ξ := ξ) (i := (i + 1)) (x := x1) rfl dL_law_1270 ⟨by omega, by omega, by omega⟩ e1 ?_
  refine r_aload_n (pc := 1271) (a := 1300) dL_law_1271 rfl ?_
  refine r_iload_n (pc := 1272) (x := i) dL_law_1272 rfl ?_
  refine r_iconst (pc := 1273) dL_law_1273 ?_
  refine r_iadd (pc := 1274) (x := i) (y := 2) dL_law_1274 ?_
  refine r_xald (pc := 1275) (ξ := ξ) (i := (i + 2)) (x := x2) rfl dL_law_1275 ⟨by omega, by omega, by omega⟩ e2 ?_
  refine r_aload_n (pc := 1276) (a := 1300) dL_law_1276 rfl ?_
  refine r_iload_n (pc := 1277) (x := i) dL_law_1277 rfl ?_
  refine r_iconst (pc := 1278) dL_law_1278 ?_
  refine r_iadd (pc := 1279) (x := i) (y := 3) dL_law_1279 ?_
  refine r_xald (pc := 1280) (ξ := ξ) (i := (i + 3)) (x := x3) rfl dL_law_1280 ⟨by omega, by omega, by omega⟩ e3 ?_
  refine r_callV (μ2 := mX12_sheet) (pc := 1281) (as := [.int (zI x1), .int (zI x2), .int (zI x3)]) (st := [.int (zI (fSheet x1 x2 x3))]) rfl s0_81 ml_L_166 im_X12_sheet se_X12_sheet okX12_sheet ⟨Nat.le_of_ble_eq_true rfl, Nat.le_of_ble_eq_true rfl⟩ dL_law_1281 (Nat.le_of_ble_eq_true rfl) rfl (Nat.le_of_ble_eq_true rfl) (Nat.le_of_ble_eq_true rfl) (Nat.le_of_ble_eq_true rfl) (zCC.mono (mSheet (M.hi f1) r1 r2 r3 (K := (fun x y => x = (fSheet x1 x2 x3) ∧ MR (aSheet a x1 x2 x3) y ∧ zLo81 h1 y)) (fun h' c f => ⟨rfl, c, f⟩)) ?_)
  rintro r S' h2 ⟨rfl, q2, hr2, rfl, M2, f2⟩
  subst hr2
  show RR (mL ξ) 108 32136 1284 [some (.ref 1300), some (.ref 0), some (.ref 81), some (.int (zI i))] [.int (zI (fSheet x1 x2 x3)), .int (zI (fSheet x1 x2 x3))] zS0 h2 (zQb zS0 fun b _ => b = true)
  refine q_icmp (pc := 1284) (x := (fSheet x1 x2 x3)) (tgt := 1421) dL_law_1284 (by decide) ?_
  exact hG _ _ (wSheet W) (C1.lo f2) M2
set_option maxRecDepth 100000 in
set_option maxHeartbeats 4000000 in
theorem lc_lay {ξ : Nat × (Nat → Int)} {a h : zMm} {i : Int} {x1 : Int} {x2 : Int} {x3 : Int} (W : WF a) (C : CR a h) (M : MR a h) (hi : 0 ≤ i ∧ i + 7 ≤ (ξ.1 : Int) ∧ ξ.1 ≤ 3584) (e1 : ξ.2 (i + 1).toNat = x1) (r1 : zR x1) (e2 : ξ.2 (i + 2).toNat = x2) (r2 : zR x2) (e3 : ξ.2 (i + 3).toNat = x3) (r3 : zR x3) (hG : lGo ξ i) : RR (mL ξ) 108 32136 1289 [some (.ref 1300), some (.ref 0), some (.ref 81), some (.int (zI i))] [] zS0 h (zQb zS0 fun b _ => b = true) := by
  refine r_aload_n (pc := 1289) (a := 0) dL_law_1289 rfl ?_
  refine r_aload_n (pc := 1290) (a := 1300) dL_law_1290 rfl ?_
  refine r_iload_n (pc := 1291) (x := i) dL_law_1291 rfl ?_
  refine r_iconst (pc := 1292) dL_law_1292 ?_
  refine r_iadd (pc := 1293) (x := i) (y := 1) dL_law_1293 ?_
  refine r_xald (pc := 1294) (ξ := ξ) (i := (i + 1)) (x := x1) rfl dL_law_1294 ⟨by omega, by omega, by omega⟩ e1 ?_
  refine r_aload_n (pc := 1295) (a := 1300) dL_law_1295 rfl ?_
  refine r_iload_n (pc := 1296) (x := i) dL_law_1296 rfl ?_
  refine r_iconst (pc := 1297) dL_law_1297 ?_
  refine r_iadd (pc := 1298) (x := i) (y := 2) dL_law_1298 ?_
  refine r_xald (pc := 1299) (ξ := ξ) (i := (i + 2)) (x := x2) rfl dL_law_1299 ⟨by omega, by omega, by omega⟩ e2 ?_
  refine r_aload_n (pc := 1300) (a := 1300) dL_law_1300 rfl ?_
  refine r_iload_n (pc := 1301) (x := i) dL_law_1301 rfl ?_
  refine r_iconst (pc := 1302) dL_law_1302 ?_
  refine r_iadd (pc := 1303) (x := i) (y := 3) dL_law_1303 ?_
  refine r_xald (pc := 1304) (ξ := ξ) (i := (i + 3)) (x := x3) rfl dL_law_1304 ⟨by omega, by omega, by omega⟩ e3 ?_
  refine r_callV (μ2 := mX11_lay) (pc := 1305) (as := [.int (zI x1), .int (zI x2), .int (zI x3)]) (st := []) rfl s0_0 ml_L_167 im_X11_lay se_X11_lay okX11_lay ⟨Nat.le_of_ble_eq_true rfl, Nat.le_of_ble_eq_true rfl⟩ dL_law_1305 (Nat.le_of_ble_eq_true rfl) rfl (Nat.le_of_ble_eq_true rfl) (Nat.le_of_ble_eq_true rfl) (Nat.le_of_ble_eq_true rfl) (zCC.mono (cLay W C r1 r2 r3 (K := (fun x y => x = (fLay a x1 x2) ∧ CR (aLay a x1 x2 x3) y ∧ zHi81 h y)) (fun h' c f => ⟨rfl, c, f⟩)) ?_)
  rintro r S' h1 ⟨rfl, q1, hr1, rfl, C1, f1⟩
  subst hr1
  show RR (mL ξ) 108 32136 1308 [some (.ref 1300), some (.ref 0), some (.ref 81), some (.int (zI i))] [.int (zI (fLay a x1 x2))] zS0 h1 (zQb zS0 fun b _ => b = true)
  refine r_aload_n (pc := 1308) (a := 81) dL_law_1308 rfl ?_
  refine r_aload_n (pc := 1309) (a := 1300) dL_law_1309 rfl ?_
  refine r_iload_n (pc := 1310) (x := i) dL_law_1310 rfl ?_
  refine r_iconst (pc := 1311) dL_law_1311 ?_
  refine r_iadd (pc := 1312) (x := i) (y := 1) dL_law_1312 ?_
  refine r_xald (pc := 1313) (ξ := ξ) (i := (i + 1)) (x := x1) rfl dL_law_1313 ⟨by omega, by omega, by omega⟩ e1 ?_
  refine r_aload_n (pc := 1314) (a := 1300) dL_law_1314 rfl ?_
  refine r_iload_n (pc := 1315) (x := i) dL_law_1315 rfl ?_
  refine r_iconst (pc := 1316) dL_law_1316 ?_
  refine r_iadd (pc := 1317) (x := i) (y := 2) dL_law_1317 ?_
  refine r_xald (pc := 1318) (ξ := ξ) (i := (i + 2)) (x := x2) rfl dL_law_1318 ⟨by omega, by omega, by omega⟩ e2 ?_
  refine r_aload_n (pc := 1319) (a := 1300) dL_law_1319 rfl ?_
  refine r_iload_n (pc := 1320) (x := i) dL_law_1320 rfl ?_
  refine r_iconst (pc := 1321) dL_law_1321 ?_
  refine r_iadd (pc := 1322) (x := i) (y := 3) dL_law_1322 ?_
  refine r_xald (pc := 1323) (ξ := ξ) (i := (i + 3)) (x := x3) rfl dL_law_1323 ⟨by omega, by omega, by omega⟩ e3 ?_
  refine r_callV (μ2 := mX12_lay) (pc := 1324) (as := [.int (zI x1), .int (zI x2), .int (zI x3)]) (st := [.int (zI (fLay a x1 x2))]) rfl s0_81 ml_L_170 im_X12_lay se_X12_lay okX12_lay ⟨Nat.le_of_ble_eq_true rfl, Nat.le_of_ble_eq_true rfl⟩ dL_law_1324 (Nat.le_of_ble_eq_true rfl) rfl (Nat.le_of_ble_eq_true rfl) (Nat.le_of_ble_eq_true rfl) (Nat.le_of_ble_eq_true rfl) (zCC.mono (mLay W (M.hi f1) r1 r2 r3 (K := (fun x y => x = (fLay a x1 x2) ∧ MR (aLay a x1 x2 x3) y ∧ zLo81 h1 y)) (fun h' c f => ⟨rfl, c, f⟩)) ?_)
  rintro r S' h2 ⟨rfl, q2, hr2, rfl, M2, f2⟩
  subst hr2
  show RR (mL ξ) 108 32136 1327 [some (.ref 1300), some (.ref 0), some (.ref 81), some (.int (zI i))] [.int (zI (fLay a x1 x2)), .int (zI (fLay a x1 x2))] zS0 h2 (zQb zS0 fun b _ => b = true)
  refine q_icmp (pc := 1327) (x := (fLay a x1 x2)) (tgt := 1421) dL_law_1327 (by decide) ?_
  exact hG _ _ (wLay W r3) (C1.lo f2) M2
set_option maxRecDepth 100000 in
set_option maxHeartbeats 4000000 in
theorem lc_read {ξ : Nat × (Nat → Int)} {a h : zMm} {i : Int} {x1 : Int} {x2 : Int} {x3 : Int} {x4 : Int} (W : WF a) (C : CR a h) (M : MR a h) (hi : 0 ≤ i ∧ i + 7 ≤ (ξ.1 : Int) ∧ ξ.1 ≤ 3584) (e1 : ξ.2 (i + 1).toNat = x1) (r1 : zR x1) (e2 : ξ.2 (i + 2).toNat = x2) (r2 : zR x2) (e3 : ξ.2 (i + 3).toNat = x3) (r3 : zR x3) (e4 : ξ.2 (i + 4).toNat = x4) (r4 : zR x4) (hG : lGo ξ i) : RR (mL ξ) 108 32136 1332 [some (.ref 1300), some (.ref 0), some (.ref 81), some (.int (zI i))] [] zS0 h (zQb zS0 fun b _ => b = true) := by
  refine r_aload_n (pc := 1332) (a := 0) dL_law_1332 rfl ?_
  refine r_aload_n (pc := 1333) (a := 1300) dL_law_1333 rfl ?_
  refine r_iload_n (pc := 1334) (x := i) dL_law_1334 rfl ?_
  refine r_iconst (pc := 1335) dL_law_1335 ?_
  refine r_iadd (pc := 1336) (x := i) (y := 1) dL_law_1336 ?_
  refine r_xald (pc := 1337) (ξ := ξ) (i := (i + 1)) (x := x1) rfl dL_law_1337 ⟨by omega, by omega, by omega⟩ e1 ?_
  refine r_aload_n (pc := 1338) (a := 1300) dL_law_1338 rfl ?_
  refine r_iload_n (pc := 1339) (x := i) dL_law_1339 rfl ?_
  refine r_iconst (pc := 1340) dL_law_1340 ?_
  refine r_iadd (pc := 1341) (x := i) (y := 2) dL_law_1341 ?_
  refine r_xald (pc := 1342) (ξ := ξ) (i := (i + 2)) (x := x2) rfl dL_law_1342 ⟨by omega, by omega, by omega⟩ e2 ?_
  refine r_aload_n (pc := 1343) (a := 1300) dL_law_1343 rfl ?_
  refine r_iload_n (pc := 1344) (x := i) dL_law_1344 rfl ?_
  refine r_iconst (pc := 1345) dL_law_1345 ?_
  refine r_iadd (pc := 1346) (x := i) (y := 3) dL_law_1346 ?_
  refine r_xald (pc := 1347) (ξ := ξ) (i := (i + 3)) (x := x3) rfl dL_law_1347 ⟨by omega, by omega, by omega⟩ e3 ?_
  refine r_aload_n (pc := 1348) (a := 1300) dL_law_1348 rfl ?_
  refine r_iload_n (pc := 1349) (x := i) dL_law_1349 rfl ?_
  refine r_iconst (pc := 1350) dL_law_1350 ?_
  refine r_iadd (pc := 1351) (x := i) (y := 4) dL_law_1351 ?_
  refine r_xald (pc := 1352) (ξ := ξ) (i := (i + 4)) (x := x4) rfl dL_law_1352 ⟨by omega, by omega, by omega⟩ e4 ?_
  refine r_callV (μ2 := mX11_read) (pc := 1353) (as := [.int (zI x1), .int (zI x2), .int (zI x3), .int (zI x4)]) (st := []) rfl s0_0 ml_L_171 im_X11_read se_X11_read okX11_read ⟨Nat.le_of_ble_eq_true rfl, Nat.le_of_ble_eq_true rfl⟩ dL_law_1353 (Nat.le_of_ble_eq_true rfl) rfl (Nat.le_of_ble_eq_true rfl) (Nat.le_of_ble_eq_true rfl) (Nat.le_of_ble_eq_true rfl) (zCC.mono (cRead W C r1 r2 r3 r4 (K := (fun x y => x = (fRead a x1 x2 x3 x4) ∧ CR (aRead a x1 x2 x3 x4) y ∧ zHi81 h y)) (fun h' c f => ⟨rfl, c, f⟩)) ?_)
  rintro r S' h1 ⟨rfl, q1, hr1, rfl, C1, f1⟩
  subst hr1
  show RR (mL ξ) 108 32136 1356 [some (.ref 1300), some (.ref 0), some (.ref 81), some (.int (zI i))] [.int (zI (fRead a x1 x2 x3 x4))] zS0 h1 (zQb zS0 fun b _ => b = true)
  refine r_aload_n (pc := 1356) (a := 81) dL_law_1356 rfl ?_
  refine r_aload_n (pc := 1357) (a := 1300) dL_law_1357 rfl ?_
  refine r_iload_n (pc := 1358) (x := i) dL_law_1358 rfl ?_
  refine r_iconst (pc := 1359) dL_law_1359 ?_
  refine r_iadd (pc := 1360) (x := i) (y := 1) dL_law_1360 ?_
  refine r_xald (pc := 1361) (ξ := ξ) (i := (i + 1)) (x := x1) rfl dL_law_1361 ⟨by omega, by omega, by omega⟩ e1 ?_
  refine r_aload_n (pc := 1362) (a := 1300) dL_law_1362 rfl ?_
  refine r_iload_n (pc := 1363) (x := i) dL_law_1363 rfl ?_
  refine r_iconst (pc := 1364) dL_law_1364 ?_
  refine r_iadd (pc := 1365) (x := i) (y := 2) dL_law_1365 ?_
  refine r_xald (pc := 1366) (ξ := ξ) (i := (i + 2)) (x := x2) rfl dL_law_1366 ⟨by omega, by omega, by omega⟩ e2 ?_
  refine r_aload_n (pc := 1367) (a := 1300) dL_law_1367 rfl ?_
  refine r_iload_n (pc := 1368) (x := i) dL_law_1368 rfl ?_
  refine r_iconst (pc := 1369) dL_law_1369 ?_
  refine r_iadd (pc := 1370) (x := i) (y := 3) dL_law_1370 ?_
  refine r_xald (pc := 1371) (ξ := ξ) (i := (i + 3)) (x := x3) rfl dL_law_1371 ⟨by omega, by omega, by omega⟩ e3 ?_
  refine r_aload_n (pc := 1372) (a := 1300) dL_law_1372 rfl ?_
  refine r_iload_n (pc := 1373) (x := i) dL_law_1373 rfl ?_
  refine r_iconst (pc := 1374) dL_law_1374 ?_
  refine r_iadd (pc := 1375) (x := i) (y := 4) dL_law_1375 ?_
  refine r_xald (pc := 1376) (ξ := ξ) (i := (i + 4)) (x := x4) rfl dL_law_1376 ⟨by omega, by omega, by omega⟩ e4 ?_
  refine r_callV (μ2 := mX12_read) (pc := 1377) (as := [.int (zI x1), .int (zI x2), .int (zI x3), .int (zI x4)]) (st := [.int (zI (fRead a x1 x2 x3 x4))]) rfl s0_81 ml_L_175 im_X12_read se_X12_read okX12_read ⟨Nat.le_of_ble_eq_true rfl, Nat.le_of_ble_eq_true rfl⟩ dL_law_1377 (Nat.le_of_ble_eq_true rfl) rfl (Nat.le_of_ble_eq_true rfl) (Nat.le_of_ble_eq_true rfl) (Nat.le_of_ble_eq_true rfl) (zCC.mono (mRead W (M.hi f1) r1 r2 r3 r4 (K := (fun x y => x = (fRead a x1 x2 x3 x4) ∧ MR (aRead a x1 x2 x3 x4) y ∧ zLo81 h1 y)) (fun h' c f => ⟨rfl, c, f⟩)) ?_)
  rintro r S' h2 ⟨rfl, q2, hr2, rfl, M2, f2⟩
  subst hr2
  show RR (mL ξ) 108 32136 1380 [some (.ref 1300), some (.ref 0), some (.ref 81), some (.int (zI i))] [.int (zI (fRead a x1 x2 x3 x4)), .int (zI (fRead a x1 x2 x3 x4))] zS0 h2 (zQb zS0 fun b _ => b = true)
  refine q_icmp (pc := 1380) (x := (fRead a x1 x2 x3 x4)) (tgt := 1421) dL_law_1380 (by decide) ?_
  exact hG _ _ (wRead W) (C1.lo f2) M2
set_option maxRecDepth 100000 in
set_option maxHeartbeats 4000000 in
theorem lc_torn {ξ : Nat × (Nat → Int)} {a h : zMm} {i : Int}  (W : WF a) (C : CR a h) (M : MR a h) (hi : 0 ≤ i ∧ i + 7 ≤ (ξ.1 : Int) ∧ ξ.1 ≤ 3584)  (hG : lGo ξ i) : RR (mL ξ) 108 32136 1385 [some (.ref 1300), some (.ref 0), some (.ref 81), some (.int (zI i))] [] zS0 h (zQb zS0 fun b _ => b = true) := by
  refine r_aload_n (pc := 1385) (a := 0) dL_law_1385 rfl ?_
  refine r_callV (μ2 := mX11_torn) (pc := 1386) (as := []) (st := []) rfl s0_0 ml_L_176 im_X11_torn se_X11_torn okX11_torn ⟨Nat.le_of_ble_eq_true rfl, Nat.le_of_ble_eq_true rfl⟩ dL_law_1386 (Nat.le_of_ble_eq_true rfl) rfl (Nat.le_of_ble_eq_true rfl) (Nat.le_of_ble_eq_true rfl) (Nat.le_of_ble_eq_true rfl) (zCC.mono (cTorn C (K := (fun x y => x = (a 7 3) ∧ CR a y ∧ zHi81 h y)) ⟨rfl, C, fun _ _ => rfl⟩) ?_)
  rintro r S' h1 ⟨rfl, q1, hr1, rfl, C1, f1⟩
  subst hr1
  show RR (mL ξ) 108 32136 1389 [some (.ref 1300), some (.ref 0), some (.ref 81), some (.int (zI i))] [.int (zI (a 7 3))] zS0 h1 (zQb zS0 fun b _ => b = true)
  refine r_aload_n (pc := 1389) (a := 81) dL_law_1389 rfl ?_
  refine r_callV (μ2 := mX12_torn) (pc := 1390) (as := []) (st := [.int (zI (a 7 3))]) rfl s0_81 ml_L_179 im_X12_torn se_X12_torn okX12_torn ⟨Nat.le_of_ble_eq_true rfl, Nat.le_of_ble_eq_true rfl⟩ dL_law_1390 (Nat.le_of_ble_eq_true rfl) rfl (Nat.le_of_ble_eq_true rfl) (Nat.le_of_ble_eq_true rfl) (Nat.le_of_ble_eq_true rfl) (zCC.mono (mTorn (M.hi f1) (K := (fun x y => x = (a 7 3) ∧ MR a y ∧ zLo81 h1 y)) ⟨rfl, (M.hi f1), fun _ _ => rfl⟩) ?_)
  rintro r S' h2 ⟨rfl, q2, hr2, rfl, M2, f2⟩
  subst hr2
  show RR (mL ξ) 108 32136 1393 [some (.ref 1300), some (.ref 0), some (.ref 81), some (.int (zI i))] [.int (zI (a 7 3)), .int (zI (a 7 3))] zS0 h2 (zQb zS0 fun b _ => b = true)
  refine q_icmp (pc := 1393) (x := (a 7 3)) (tgt := 1421) dL_law_1393 (by decide) ?_
  exact hG _ _ W (C1.lo f2) M2
set_option maxRecDepth 100000 in
set_option maxHeartbeats 4000000 in
theorem lc_count {ξ : Nat × (Nat → Int)} {a h : zMm} {i : Int} {x1 : Int} (W : WF a) (C : CR a h) (M : MR a h) (hi : 0 ≤ i ∧ i + 7 ≤ (ξ.1 : Int) ∧ ξ.1 ≤ 3584) (e1 : ξ.2 (i + 1).toNat = x1) (r1 : zR x1) (hG : lGo ξ i) : RR (mL ξ) 108 32136 1398 [some (.ref 1300), some (.ref 0), some (.ref 81), some (.int (zI i))] [] zS0 h (zQb zS0 fun b _ => b = true) := by
  refine r_aload_n (pc := 1398) (a := 0) dL_law_1398 rfl ?_
  refine r_aload_n (pc := 1399) (a := 1300) dL_law_1399 rfl ?_
  refine r_iload_n (pc := 1400) (x := i) dL_law_1400 rfl ?_
  refine r_iconst (pc := 1401) dL_law_1401 ?_
  refine r_iadd (pc := 1402) (x := i) (y := 1) dL_law_1402 ?_
  refine r_xald (pc := 1403) (ξ := ξ) (i := (i + 1)) (x := x1) rfl dL_law_1403 ⟨by omega, by omega, by omega⟩ e1 ?_
  refine r_callV (μ2 := mX11_count) (pc := 1404) (as := [.int (zI x1)]) (st := []) rfl s0_0 ml_L_180 im_X11_count se_X11_count okX11_count ⟨Nat.le_of_ble_eq_true rfl, Nat.le_of_ble_eq_true rfl⟩ dL_law_1404 (Nat.le_of_ble_eq_true rfl) rfl (Nat.le_of_ble_eq_true rfl) (Nat.le_of_ble_eq_true rfl) (Nat.le_of_ble_eq_true rfl) (zCC.mono (cCount W C r1 (K := (fun x y => x = (fCount a x1) ∧ CR a y ∧ zHi81 h y)) ⟨rfl, C, fun _ _ => rfl⟩) ?_)
  rintro r S' h1 ⟨rfl, q1, hr1, rfl, C1, f1⟩
  subst hr1
  show RR (mL ξ) 108 32136 1407 [some (.ref 1300), some (.ref 0), some (.ref 81), some (.int (zI i))] [.int (zI (fCount a x1))] zS0 h1 (zQb zS0 fun b _ => b = true)
  refine r_aload_n (pc := 1407) (a := 81) dL_law_1407 rfl ?_
  refine r_aload_n (pc := 1408) (a := 1300) dL_law_1408 rfl ?_
  refine r_iload_n (pc := 1409) (x := i) dL_law_1409 rfl ?_
  refine r_iconst (pc := 1410) dL_law_1410 ?_
  refine r_iadd (pc := 1411) (x := i) (y := 1) dL_law_1411 ?_
  refine r_xald (pc := 1412) (ξ := ξ) (i := (i + 1)) (x := x1) rfl dL_law_1412 ⟨by omega, by omega, by omega⟩ e1 ?_
  refine r_callV (μ2 := mX12_count) (pc := 1413) (as := [.int (zI x1)]) (st := [.int (zI (fCount a x1))]) rfl s0_81 ml_L_183 im_X12_count se_X12_count okX12_count ⟨Nat.le_of_ble_eq_true rfl, Nat.le_of_ble_eq_true rfl⟩ dL_law_1413 (Nat.le_of_ble_eq_true rfl) rfl (Nat.le_of_ble_eq_true rfl) (Nat.le_of_ble_eq_true rfl) (Nat.le_of_ble_eq_true rfl) (zCC.mono (mCount W (M.hi f1) r1 (K := (fun x y => x = (fCount a x1) ∧ MR a y ∧ zLo81 h1 y)) (fun h' c f => ⟨rfl, c, f⟩)) ?_)
  rintro r S' h2 ⟨rfl, q2, hr2, rfl, M2, f2⟩
  subst hr2
  show RR (mL ξ) 108 32136 1416 [some (.ref 1300), some (.ref 0), some (.ref 81), some (.int (zI i))] [.int (zI (fCount a x1)), .int (zI (fCount a x1))] zS0 h2 (zQb zS0 fun b _ => b = true)
  refine q_icmp (pc := 1416) (x := (fCount a x1)) (tgt := 1421) dL_law_1416 (by decide) ?_
  exact hG _ _ W (C1.lo f2) M2
