/-! THE CLASS'S TABLES: a node, all nodes -/
theorem g_S_c {w h : Int} {sl : Int → Int} {M0 M : jm_Mem} {e : Int} (hw : M0 2 4 = w) (hh : M0 2 5 = h) (hs : M0 3 = sl) (hS : g_S w h sl M0 e M) : M 2 4 = w ∧ M 2 5 = h ∧ M 3 = sl := by
  have h2 := hS.1.1 2 (by decide)
  have h3 := hS.1.1 3 (by decide)
  rw [h2, h3]
  exact ⟨hw, hh, hs⟩
theorem p_12_94 {w h : Int} {sl : Int → Int} {M0 M : jm_Mem} {x y n : Int} {o5 o6 : Option jm_V} {Q : jm_Q} (hg : g_ok w h sl) (hw : M0 2 4 = w) (hh : M0 2 5 = h) (hs : M0 3 = sl) (hx : n % w = x) (hy : n / w = y) (hn : n = y * w + x) (x0 : 0 ≤ x) (x1 : x < w) (y0 : 0 ≤ y) (y1 : y < h) (hnd : g_nd w h n) (hS : g_S w h sl M0 (3 * n + 2) M) (hQ : ∀ M', g_S w h sl M0 (3 * n + 3) M' → Q none M') : jm_run 12 (94, [some (jm_R 1), some (jm_I x), some (jm_I y), some (jm_I w), some (jm_I n), o5, o6], [], M) Q := by
  obtain ⟨c1, c2, c3⟩ := g_S_c hw hh hs hS
  have hnb := g_nb hg.1 hnd
  have hsn := g_slb hg n
  obtain ⟨g1, g2, g3, g4⟩ := id hg.1
  have h3 : (3 * n + 2) % 3 = 2 := by omega
  have e3 : 3 * n + 2 + 1 = 3 * n + 3 := by omega
  refine sg_12_94 ?_
  rw [e_80_T (by rw [c1, c2]; exact hg.1), c1, c2]
  refine ⟨_, rfl, fun a => ?_, fun a => ⟨by omega, by omega, fun b => ?_, fun b => ?_⟩⟩
  · rw [jm_B0] at a
    rw [if_neg (by omega), if_neg (by omega)] at a
    refine hQ M ?_
    rw [← e3]
    refine g_S_no (fun q => ?_) (by omega) hS
    rw [g_E2] at q
    unfold g_ce at q
    omega
  · rw [c3] at b
    refine hQ M ?_
    rw [← e3]
    refine g_S_no (fun q => ?_) (by omega) hS
    rw [g_E2] at q
    omega
  · rw [jm_Bn] at a
    rw [if_neg (by omega), if_neg (by omega)] at a
    rw [c3] at b
    have he : g_E w h sl (3 * n + 2) := by
      rw [g_E2]
      exact ⟨⟨hnd.1, hnd.2, by omega, by omega⟩, by omega⟩
    have hcnt := hS.2
    obtain ⟨l, -, hl, hsc⟩ := hcnt
    have hln : ((g_el w h sl).length : Int) ≤ 108 - 0 := g_ls_len 0 (by omega)
    have hlf := List.length_filter_le (fun x => decide (x % 3 = 2)) l
    rw [← hl, List.length_append] at hln
    refine ⟨⟨by omega, by omega⟩, by omega, by omega, fun d => ⟨⟨by omega, by omega⟩, ⟨by omega, by omega⟩, ⟨by omega, by omega⟩, ⟨by omega, by omega⟩, ⟨by omega, by omega⟩, ⟨by omega, by omega⟩, ⟨by omega, by omega⟩, ?_⟩, fun d => ⟨⟨by omega, by omega⟩, ⟨by omega, by omega⟩, ⟨by omega, by omega⟩, ⟨by omega, by omega⟩, ⟨by omega, by omega⟩, ⟨by omega, by omega⟩, ⟨by omega, by omega⟩, ?_⟩⟩
    · simp only [jm_st_e, Nat.reduceEqDiff, reduceIte, c3] at d
      refine g_S_16s hg he h3 rfl ?_ ?_ ?_ ?_ ?_ hS (fun M' hM' => ⟨rfl, hQ M' (e3 ▸ hM')⟩)
      · rw [g_fr2, if_neg (by omega)]
      · rw [g_to2, if_neg (by omega)]
      · rw [g_di2, if_pos d]
      · rw [g_lf2, if_pos d]
      · rw [g_rt2, if_pos d]
    · simp only [jm_st_e, Nat.reduceEqDiff, reduceIte, c3] at d
      refine g_S_16s hg he h3 rfl ?_ ?_ ?_ ?_ ?_ hS (fun M' hM' => ⟨rfl, hQ M' (e3 ▸ hM')⟩)
      · rw [g_fr2, if_pos (by omega)]
      · rw [g_to2, if_pos (by omega)]
      · rw [g_di2, if_neg d]
      · rw [g_lf2, if_neg d]
      · rw [g_rt2, if_neg d]
theorem p_12_69 {w h : Int} {sl : Int → Int} {M0 M : jm_Mem} {x y n s0 : Int} {o5 o6 : Option jm_V} {Q : jm_Q} (hg : g_ok w h sl) (hw : M0 2 4 = w) (hh : M0 2 5 = h) (hs : M0 3 = sl) (hx : n % w = x) (hy : n / w = y) (hn : n = y * w + x) (x0 : 0 ≤ x) (x1 : x < w) (y0 : 0 ≤ y) (y1 : y < h - 1) (hnd : g_nd w h n) (hs0 : s0 = if x < w - 1 then (if sl n = 1 then 2 * n + 1 else 2 * n) else 72) (hS : g_S w h sl M0 (3 * n + 1) M) (hQ : ∀ M', g_S w h sl M0 (3 * n + 3) M' → Q none M') : jm_run 12 (69, [some (jm_R 1), some (jm_I x), some (jm_I y), some (jm_I w), some (jm_I n), o5, o6], [jm_I s0], M) Q := by
  obtain ⟨c1, c2, c3⟩ := g_S_c hw hh hs hS
  have hnb := g_nb hg.1 hnd
  obtain ⟨g1, g2, g3, g4⟩ := id hg.1
  have e3 : 3 * n + 1 + 1 = 3 * n + 2 := by omega
  have hf := (g_faces hg hx hy hn x0 x1 y0 (by omega)).2 y1
  have he : g_E w h sl (3 * n + 1) := by
    rw [g_E1, hy]
    exact ⟨hnd, y1⟩
  refine sg_12_69 ⟨fun a => ⟨⟨by omega, by omega⟩, ?_⟩, fun a => ⟨⟨by omega, by omega⟩, ⟨by omega, by omega⟩, ⟨by omega, by omega⟩, ?_⟩⟩
  · have : 0 ≤ y * w := Int.mul_nonneg y0 (by omega)
    rw [e_15 (by omega) (by omega), c3]
    refine ⟨_, rfl, ⟨by omega, by omega⟩, ⟨by omega, by omega⟩, ⟨by omega, by omega⟩, ?_⟩
    refine g_S_16 hg he (by omega) rfl g_fr1.symm g_to1.symm g_di1.symm ?_ ?_ hS (fun M' hM' => ⟨rfl, p_12_94 hg hw hh hs hx hy hn x0 x1 y0 (by omega) hnd (e3 ▸ hM') hQ⟩)
    · rw [hf.1, hs0]
    · rw [hf.2, if_pos a]
  · refine g_S_16 hg he (by omega) rfl g_fr1.symm g_to1.symm g_di1.symm ?_ ?_ hS (fun M' hM' => ⟨rfl, p_12_94 hg hw hh hs hx hy hn x0 x1 y0 (by omega) hnd (e3 ▸ hM') hQ⟩)
    · rw [hf.1, hs0]
    · rw [hf.2, if_neg a]
theorem p_12_39 {w h : Int} {sl : Int → Int} {M0 M : jm_Mem} {x y n x5 s0 : Int} {Q : jm_Q} (hg : g_ok w h sl) (hw : M0 2 4 = w) (hh : M0 2 5 = h) (hs : M0 3 = sl) (hx : n % w = x) (hy : n / w = y) (hn : n = y * w + x) (x0 : 0 ≤ x) (x1 : x < w - 1) (y0 : 0 ≤ y) (y1 : y < h) (hnd : g_nd w h n) (hx5 : x5 = if 0 < y then (if sl (n - w) = 0 then 2 * (n - w) else 2 * (n - w) + 1) else 72) (hs0 : s0 = if y < h - 1 then 2 * n else 72) (hS : g_S w h sl M0 (3 * n) M) (hQ : ∀ M', g_S w h sl M0 (3 * n + 3) M' → Q none M') : jm_run 12 (39, [some (jm_R 1), some (jm_I x), some (jm_I y), some (jm_I w), some (jm_I n), some (jm_I x5), none], [jm_I s0], M) Q := by
  have hnb := g_nb hg.1 hnd
  obtain ⟨g1, g2, g3, g4⟩ := id hg.1
  have hf := (g_faces hg hx hy hn x0 (by omega) y0 y1).1 x1
  have he : g_E w h sl (3 * n) := by
    rw [g_E0, hx]
    exact ⟨hnd, x1⟩
  refine sg_12_39 ⟨⟨by omega, by omega⟩, ⟨by omega, by omega⟩, ?_⟩
  refine g_S_16 hg he (by omega) rfl g_fr0.symm g_to0.symm g_di0.symm (by rw [hf.1, hx5]) (by rw [hf.2, hs0]) hS (fun M' hM' => ⟨rfl, ?_⟩)
  obtain ⟨c1, c2, c3⟩ := g_S_c hw hh hs hM'
  rw [e_80_T (by rw [c1, c2]; exact hg.1), c1, c2]
  refine ⟨_, rfl, fun a => ?_, fun a => ⟨⟨by omega, by omega⟩, fun b => ?_, fun b => ?_⟩⟩
  · rw [jm_B0, if_pos rfl, if_neg (by omega)] at a
    refine p_12_94 hg hw hh hs hx hy hn x0 (by omega) y0 y1 hnd ?_ hQ
    rw [show 3 * n + 2 = 3 * n + 1 + 1 by omega]
    refine g_S_no (fun q => ?_) (by omega) hM'
    rw [g_E1] at q
    omega
  · rw [jm_Bn, if_pos rfl, if_neg (by omega)] at a
    rw [e_14 (by omega) (by omega), c3]
    refine ⟨_, rfl, p_12_69 hg hw hh hs hx hy hn x0 (by omega) y0 (by omega) hnd ?_ hM' hQ⟩
    rw [if_pos b]
  · omega
theorem p_12 {w h : Int} {sl : Int → Int} {M0 M : jm_Mem} {x y : Int} {Q : jm_Q} (hg : g_ok w h sl) (hw : M0 2 4 = w) (hh : M0 2 5 = h) (hs : M0 3 = sl) (x0 : 0 ≤ x) (x1 : x < w) (y0 : 0 ≤ y) (y1 : y < h) (hS : g_S w h sl M0 (3 * (y * w + x)) M) (hQ : ∀ M', g_S w h sl M0 (3 * (y * w + (x + 1))) M' → Q none M') : jm_cl 12 [jm_R 1, jm_I x, jm_I y] M Q := by
  obtain ⟨hcw, hch⟩ := g_cases hg.1
  have hn : (y * w + x) % w = x ∧ (y * w + x) / w = y ∧ 0 ≤ y * w + x ∧ y * w + x < w * h ∧ 0 ≤ y * w ∧ (0 < y → w ≤ y * w) := by
    rcases hcw with rfl | rfl | rfl | rfl | rfl <;> omega
  obtain ⟨hx, hy, n0, n1, yw, yw2⟩ := hn
  have hnd : g_nd w h (y * w + x) := ⟨n0, n1⟩
  have hnb := g_nb hg.1 hnd
  obtain ⟨g1, g2, g3, g4⟩ := id hg.1
  obtain ⟨c1, c2, c3⟩ := g_S_c hw hh hs hS
  have hQ' : ∀ M', g_S w h sl M0 (3 * (y * w + x) + 3) M' → Q none M' := by
    intro M' hM'
    refine hQ M' ?_
    rw [show 3 * (y * w + (x + 1)) = 3 * (y * w + x) + 3 by omega]
    exact hM'
  refine sc_12 ?_
  rw [c1]
  refine ⟨⟨by omega, by omega⟩, ⟨by omega, by omega⟩, ?_⟩
  rw [e_80_T (by rw [c1, c2]; exact hg.1), c1, c2]
  generalize hgn : y * w + x = n at *
  refine ⟨_, rfl, fun a => ?_, fun a => ⟨fun b => ⟨⟨by omega, by omega⟩, ?_⟩, fun b => ⟨⟨by omega, by omega⟩, fun d => ⟨⟨by omega, by omega⟩, ?_⟩, fun d => ?_⟩⟩⟩
  · rw [jm_B0, if_neg (by omega), if_pos rfl] at a
    have hS1 : g_S w h sl M0 (3 * n + 1) M := by
      refine g_S_no (fun q => ?_) (by omega) hS
      rw [g_E0] at q
      omega
    rw [e_80_T (by rw [c1, c2]; exact hg.1), c1, c2]
    refine ⟨_, rfl, fun b => ?_, fun b => ⟨⟨by omega, by omega⟩, fun d => ?_, fun d => ?_⟩⟩
    · rw [jm_B0, if_pos rfl, if_neg (by omega)] at b
      refine p_12_94 hg hw hh hs hx hy hgn.symm x0 (by omega) y0 y1 hnd ?_ hQ'
      rw [show 3 * n + 2 = 3 * n + 1 + 1 by omega]
      refine g_S_no (fun q => ?_) (by omega) hS1
      rw [g_E1] at q
      omega
    · omega
    · rw [jm_Bn, if_pos rfl, if_neg (by omega)] at b
      exact p_12_69 hg hw hh hs hx hy hgn.symm x0 (by omega) y0 (by omega) hnd (by rw [if_neg d]) hS1 hQ'
  · rw [jm_Bn, if_neg (by omega), if_pos rfl] at a
    have := yw2 b
    rw [e_13 (by omega) (by omega), c2, c3]
    refine ⟨_, rfl, ⟨by omega, by omega⟩, fun d => ⟨⟨by omega, by omega⟩, ?_⟩, fun d => ?_⟩
    · exact p_12_39 hg hw hh hs hx hy hgn.symm x0 (by omega) y0 y1 hnd (by rw [if_pos b]) (by rw [if_pos d]) hS hQ'
    · exact p_12_39 hg hw hh hs hx hy hgn.symm x0 (by omega) y0 y1 hnd (by rw [if_pos b]) (by rw [if_neg d]) hS hQ'
  · rw [jm_Bn, if_neg (by omega), if_pos rfl] at a
    exact p_12_39 hg hw hh hs hx hy hgn.symm x0 (by omega) y0 y1 hnd (by rw [if_neg b]) (by rw [if_pos d]) hS hQ'
  · rw [jm_Bn, if_neg (by omega), if_pos rfl] at a
    exact p_12_39 hg hw hh hs hx hy hgn.symm x0 (by omega) y0 y1 hnd (by rw [if_neg b]) (by rw [if_neg d]) hS hQ'
