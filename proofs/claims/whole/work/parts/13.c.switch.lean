set_option maxRecDepth 100000 in
set_option maxHeartbeats 4000000 in
theorem lSw {ξ : Nat × (Nat → Int)} {a h : zMm} {i : Int} (W : WF a) (C : CR a h) (M : MR a h) (hi : 0 ≤ i ∧ i + 7 ≤ (ξ.1 : Int) ∧ ξ.1 ≤ 3584) (hx : ∀ j : Nat, zR (ξ.2 j)) (hG : lGo ξ i)  {x : Int} (r : zR x) (hx6 : 0 ≤ x ∧ x < 64) : RR (mL ξ) 108 32136 33 [some (.ref 1300), some (.ref 0), some (.ref 81), some (.int (zI i))] [.int (zI x)] zS0 h (zQb zS0 fun b _ => b = true) := by
  rcases (show x = 0 ∨ x = 1 ∨ x = 2 ∨ x = 3 ∨ x = 4 ∨ x = 5 ∨ x = 6 ∨ x = 7 ∨ x = 8 ∨ x = 9 ∨ x = 10 ∨ x = 11 ∨ x = 12 ∨ x = 13 ∨ x = 14 ∨ x = 15 ∨ x = 16 ∨ x = 17 ∨ x = 18 ∨ x = 19 ∨ x = 20 ∨ x = 21 ∨ x = 22 ∨ x = 23 ∨ x = 24 ∨ x = 25 ∨ x = 26 ∨ x = 27 ∨ x = 28 ∨ x = 29 ∨ x = 30 ∨ x = 31 ∨ x = 32 ∨ x = 33 ∨ x = 34 ∨ x = 35 ∨ x = 36 ∨ x = 37 ∨ x = 38 ∨ 38 < x by omega) with hc | hc | hc | hc | hc | hc | hc | hc | hc | hc | hc | hc | hc | hc | hc | hc | hc | hc | hc | hc | hc | hc | hc | hc | hc | hc | hc | hc | hc | hc | hc | hc | hc | hc | hc | hc | hc | hc | hc | hc
  · refine r_tswIn (pc := 33) (x := x) (tgt := 204) dL_law_33 r (by omega) (by omega) (by rw [hc]; rfl) (by decide) ?_
    exact lc_feed W C M hi rfl (hx _) rfl (hx _) hG
  · refine r_tswIn (pc := 33) (x := x) (tgt := 257) dL_law_33 r (by omega) (by omega) (by rw [hc]; rfl) (by decide) ?_
    exact lc_end W C M hi rfl (hx _) hG
  · refine r_tswIn (pc := 33) (x := x) (tgt := 280) dL_law_33 r (by omega) (by omega) (by rw [hc]; rfl) (by decide) ?_
    exact lc_garden W C M hi  hG
  · refine r_tswIn (pc := 33) (x := x) (tgt := 293) dL_law_33 r (by omega) (by omega) (by rw [hc]; rfl) (by decide) ?_
    exact lc_fault W C M hi  hG
  · refine r_tswIn (pc := 33) (x := x) (tgt := 306) dL_law_33 r (by omega) (by omega) (by rw [hc]; rfl) (by decide) ?_
    exact lc_rule W C M hi rfl (hx _) hG
  · refine r_tswIn (pc := 33) (x := x) (tgt := 329) dL_law_33 r (by omega) (by omega) (by rw [hc]; rfl) (by decide) ?_
    exact lc_cell W C M hi rfl (hx _) rfl (hx _) hG
  · refine r_tswIn (pc := 33) (x := x) (tgt := 362) dL_law_33 r (by omega) (by omega) (by rw [hc]; rfl) (by decide) ?_
    exact lc_put W C M hi rfl (hx _) rfl (hx _) hG
  · refine r_tswIn (pc := 33) (x := x) (tgt := 395) dL_law_33 r (by omega) (by omega) (by rw [hc]; rfl) (by decide) ?_
    exact lc_move W C M hi rfl (hx _) rfl (hx _) hG
  · refine r_tswIn (pc := 33) (x := x) (tgt := 428) dL_law_33 r (by omega) (by omega) (by rw [hc]; rfl) (by decide) ?_
    exact lc_clear W C M hi  hG
  · refine r_tswIn (pc := 33) (x := x) (tgt := 441) dL_law_33 r (by omega) (by omega) (by rw [hc]; rfl) (by decide) ?_
    exact lc_moved W C M hi rfl (hx _) rfl (hx _) hG
  · refine r_tswIn (pc := 33) (x := x) (tgt := 474) dL_law_33 r (by omega) (by omega) (by rw [hc]; rfl) (by decide) ?_
    exact lc_run W C M hi rfl (hx _) rfl (hx _) hG
  · refine r_tswIn (pc := 33) (x := x) (tgt := 507) dL_law_33 r (by omega) (by omega) (by rw [hc]; rfl) (by decide) ?_
    exact lc_mow W C M hi rfl (hx _) hG
  · refine r_tswIn (pc := 33) (x := x) (tgt := 530) dL_law_33 r (by omega) (by omega) (by rw [hc]; rfl) (by decide) ?_
    exact lc_cord W C M hi rfl (hx _) rfl (hx _) hG
  · refine r_tswIn (pc := 33) (x := x) (tgt := 564) dL_law_33 r (by omega) (by omega) (by rw [hc]; rfl) (by decide) ?_
    exact lc_trips W C M hi rfl (hx _) hG
  · refine r_tswIn (pc := 33) (x := x) (tgt := 587) dL_law_33 r (by omega) (by omega) (by rw [hc]; rfl) (by decide) ?_
    exact lc_begin W C M hi  hG
  · refine r_tswIn (pc := 33) (x := x) (tgt := 600) dL_law_33 r (by omega) (by omega) (by rw [hc]; rfl) (by decide) ?_
    exact lc_need W C M hi rfl (hx _) hG
  · refine r_tswIn (pc := 33) (x := x) (tgt := 623) dL_law_33 r (by omega) (by omega) (by rw [hc]; rfl) (by decide) ?_
    exact lc_least W C M hi rfl (hx _) hG
  · refine r_tswIn (pc := 33) (x := x) (tgt := 646) dL_law_33 r (by omega) (by omega) (by rw [hc]; rfl) (by decide) ?_
    exact lc_tree W C M hi rfl (hx _) hG
  · refine r_tswIn (pc := 33) (x := x) (tgt := 669) dL_law_33 r (by omega) (by omega) (by rw [hc]; rfl) (by decide) ?_
    exact lc_dearest W C M hi rfl (hx _) hG
  · refine r_tswIn (pc := 33) (x := x) (tgt := 692) dL_law_33 r (by omega) (by omega) (by rw [hc]; rfl) (by decide) ?_
    exact lc_adopt W C M hi  hG
  · refine r_tswIn (pc := 33) (x := x) (tgt := 705) dL_law_33 r (by omega) (by omega) (by rw [hc]; rfl) (by decide) ?_
    exact lc_steps W C M hi rfl (hx _) rfl (hx _) hG
  · refine r_tswIn (pc := 33) (x := x) (tgt := 738) dL_law_33 r (by omega) (by omega) (by rw [hc]; rfl) (by decide) ?_
    exact lc_beyond W C M hi  hG
  · refine r_tswIn (pc := 33) (x := x) (tgt := 752) dL_law_33 r (by omega) (by omega) (by rw [hc]; rfl) (by decide) ?_
    exact lc_middle W C M hi rfl (hx _) hG
  · refine r_tswIn (pc := 33) (x := x) (tgt := 775) dL_law_33 r (by omega) (by omega) (by rw [hc]; rfl) (by decide) ?_
    exact lc_robot W C M hi rfl (hx _) rfl (hx _) rfl (hx _) rfl (hx _) rfl (hx _) rfl (hx _) hG
  · refine r_tswIn (pc := 33) (x := x) (tgt := 851) dL_law_33 r (by omega) (by omega) (by rw [hc]; rfl) (by decide) ?_
    exact lc_until W C M hi rfl (hx _) rfl (hx _) rfl (hx _) rfl (hx _) rfl (hx _) rfl (hx _) hG
  · refine r_tswIn (pc := 33) (x := x) (tgt := 926) dL_law_33 r (by omega) (by omega) (by rw [hc]; rfl) (by decide) ?_
    exact lc_never W C M hi rfl (hx _) rfl (hx _) rfl (hx _) hG
  · refine r_tswIn (pc := 33) (x := x) (tgt := 970) dL_law_33 r (by omega) (by omega) (by rw [hc]; rfl) (by decide) ?_
    exact lc_best W C M hi rfl (hx _) rfl (hx _) rfl (hx _) rfl (hx _) rfl (hx _) hG
  · refine r_tswIn (pc := 33) (x := x) (tgt := 1033) dL_law_33 r (by omega) (by omega) (by rw [hc]; rfl) (by decide) ?_
    exact lc_odds W C M hi rfl (hx _) rfl (hx _) rfl (hx _) rfl (hx _) rfl (hx _) hG
  · refine r_tswIn (pc := 33) (x := x) (tgt := 1097) dL_law_33 r (by omega) (by omega) (by rw [hc]; rfl) (by decide) ?_
    exact lc_week W C M hi rfl (hx _) hG
  · refine r_tswIn (pc := 33) (x := x) (tgt := 1120) dL_law_33 r (by omega) (by omega) (by rw [hc]; rfl) (by decide) ?_
    exact lc_high W C M hi rfl (hx _) rfl (hx _) hG
  · refine r_tswIn (pc := 33) (x := x) (tgt := 1154) dL_law_33 r (by omega) (by omega) (by rw [hc]; rfl) (by decide) ?_
    exact lc_weeks W C M hi rfl (hx _) hG
  · refine r_tswIn (pc := 33) (x := x) (tgt := 1177) dL_law_33 r (by omega) (by omega) (by rw [hc]; rfl) (by decide) ?_
    exact lc_stripes W C M hi rfl (hx _) hG
  · refine r_tswIn (pc := 33) (x := x) (tgt := 1200) dL_law_33 r (by omega) (by omega) (by rw [hc]; rfl) (by decide) ?_
    exact lc_keep W C M hi rfl (hx _) hG
  · refine r_tswIn (pc := 33) (x := x) (tgt := 1223) dL_law_33 r (by omega) (by omega) (by rw [hc]; rfl) (by decide) ?_
    exact lc_back W C M hi rfl (hx _) hG
  · refine r_tswIn (pc := 33) (x := x) (tgt := 1246) dL_law_33 r (by omega) (by omega) (by rw [hc]; rfl) (by decide) ?_
    exact lc_sheet W C M hi rfl (hx _) rfl (hx _) rfl (hx _) hG
  · refine r_tswIn (pc := 33) (x := x) (tgt := 1289) dL_law_33 r (by omega) (by omega) (by rw [hc]; rfl) (by decide) ?_
    exact lc_lay W C M hi rfl (hx _) rfl (hx _) rfl (hx _) hG
  · refine r_tswIn (pc := 33) (x := x) (tgt := 1332) dL_law_33 r (by omega) (by omega) (by rw [hc]; rfl) (by decide) ?_
    exact lc_read W C M hi rfl (hx _) rfl (hx _) rfl (hx _) rfl (hx _) hG
  · refine r_tswIn (pc := 33) (x := x) (tgt := 1385) dL_law_33 r (by omega) (by omega) (by rw [hc]; rfl) (by decide) ?_
    exact lc_torn W C M hi  hG
  · refine r_tswIn (pc := 33) (x := x) (tgt := 1398) dL_law_33 r (by omega) (by omega) (by rw [hc]; rfl) (by decide) ?_
    exact lc_count W C M hi rfl (hx _) hG
  · refine r_tswOut (pc := 33) (x := x) (tgt := 1421) dL_law_33 r (Or.inr hc) (by decide) ?_
    exact hG _ _ W C M
