/-! THE CLASS'S TABLES: the rim, the whole -/
def g_rn (w h k : Int) : Int := if k < w - 1 then k else if k < w + h - 2 then (k - (w - 1)) * w + w - 1 else if k < 2 * w + h - 3 then (h - 1) * w + (w - 1 - (k - (w + h - 2))) else (h - 1 - (k - (2 * w + h - 3))) * w
def g_rg (w h k : Int) : Int := if k < w - 1 then 3 * k else if k < w + h - 2 then 3 * g_rn w h k + 1 else if k < 2 * w + h - 3 then 3 * (g_rn w h k - 1) else 3 * (h - 1 - (k - (2 * w + h - 3)) - 1) * w + 1
/-- so many nodes of the rim stand -/
def g_rm (w h : Int) (M0 : jm_Mem) (k : Int) (M : jm_Mem) : Prop := jm_fr [1, 14, 15] M0 M ∧ (∀ i, i ≠ 16 → M 1 i = M0 1 i) ∧ M 1 16 = k ∧ ∀ j, 0 ≤ j → j < k → M 14 j = g_rn w h j ∧ M 15 j = g_rg w h j
theorem p_18 {w h k : Int} {M0 M : jm_Mem} {n e : Int} {Q : jm_Q} (h0 : 0 ≤ k) (h1 : k < 20) (hn : n = g_rn w h k) (he : e = g_rg w h k) (hS : g_rm w h M0 k M) (hQ : ∀ M', g_rm w h M0 (k + 1) M' → Q none M') : jm_cl 18 [jm_R 1, jm_I n, jm_I e] M Q := by
  obtain ⟨a, b, c, d⟩ := hS
  refine sc_18 ?_
  simp only [jm_st_e, Nat.reduceEqDiff, reduceIte, c]
  refine ⟨by omega, by omega, by omega, by omega, ⟨by omega, by omega⟩, hQ _ ⟨?_, ?_, ?_, ?_⟩⟩
  · exact jm_fr_tr (jm_fr_tr (jm_fr_tr a (jm_fr_st (by decide))) (jm_fr_st (by decide))) (jm_fr_st (by decide))
  · intro i hi
    simp only [jm_st_e, Nat.reduceEqDiff, reduceIte]
    rw [jm_up_o hi]
    exact b i hi
  · simp only [jm_st_e, Nat.reduceEqDiff, reduceIte]
    rw [jm_up_s]
  · intro j j0 j1
    simp only [jm_st_e, Nat.reduceEqDiff, reduceIte]
    by_cases hj : j = k
    · subst hj
      rw [jm_up_s, jm_up_s]
      exact ⟨hn, he⟩
    · rw [jm_up_o hj, jm_up_o hj]
      exact d j j0 (by omega)
theorem p_17 {w h : Int} {M : jm_Mem} {Q : jm_Q} (hg : g_sd w h) (hw : M 2 4 = w) (hh : M 2 5 = h) (hQ : ∀ M', g_rm w h M (2 * w + 2 * h - 4) M' → Q none M') : jm_cl 17 [jm_R 1] M Q := by
  obtain ⟨hcw, hch⟩ := g_cases hg
  obtain ⟨g1, g2, g3, g4⟩ := id hg
  have L4 : ∀ k, k ≤ h - 1 → 0 ≤ k → ∀ (y : Int) (o4 : Option jm_V) (M' : jm_Mem), y = h - 1 - k → g_rm w h M (2 * w + h - 3 + k) M' → jm_run 17 (79, [some (jm_R 1), some (jm_I w), some (jm_I h), some (jm_I y), o4], [], M') Q := by
    refine jm_dn ?_
    intro k hk ih k0 y o4 M' hy hM'
    have hb : 0 ≤ y * w ∧ y * w ≤ 30 ∧ (0 < y → 0 ≤ 3 * (y - 1) * w ∧ 3 * (y - 1) * w ≤ 90) := by
      rcases hcw with rfl | rfl | rfl | rfl | rfl <;> omega
    refine sg_17_79 ⟨fun a => ⟨⟨by omega, by omega⟩, ⟨by omega, by omega⟩, ⟨by omega, by omega⟩, ⟨by omega, by omega⟩, ⟨by omega, by omega⟩, p_18 (w := w) (h := h) (M0 := M) (k := 2 * w + h - 3 + k) (by omega) (by omega) ?_ ?_ hM' (fun M2 hM2 => ⟨rfl, ⟨by omega, by omega⟩, ih (by omega) (by omega) _ _ _ (by omega) ?_⟩)⟩, fun a => hQ M' ?_⟩
    · unfold g_rn
      rw [if_neg (by omega), if_neg (by omega), if_neg (by omega), show h - 1 - (2 * w + h - 3 + k - (2 * w + h - 3)) = y by omega]
    · unfold g_rg
      rw [if_neg (by omega), if_neg (by omega), if_neg (by omega), show h - 1 - (2 * w + h - 3 + k - (2 * w + h - 3)) - 1 = y - 1 by omega]
    · rw [show 2 * w + h - 3 + (k + 1) = 2 * w + h - 3 + k + 1 by omega]
      exact hM2
    · rw [show 2 * w + 2 * h - 4 = 2 * w + h - 3 + k by omega]
      exact hM'
  have L3 : ∀ k, k ≤ w - 1 → 0 ≤ k → ∀ (x : Int) (o4 : Option jm_V) (M' : jm_Mem), x = w - 1 - k → g_rm w h M (w + h - 2 + k) M' → jm_run 17 (55, [some (jm_R 1), some (jm_I w), some (jm_I h), some (jm_I x), o4], [], M') Q := by
    refine jm_dn ?_
    intro k hk ih k0 x o4 M' hx hM'
    have hb : 0 ≤ (h - 1) * w ∧ (h - 1) * w ≤ 30 := by
      rcases hcw with rfl | rfl | rfl | rfl | rfl <;> omega
    have hr : g_rn w h (w + h - 2 + k) = (h - 1) * w + x := by
      unfold g_rn
      by_cases a : 0 < x
      · rw [if_neg (by omega), if_neg (by omega), if_pos (by omega), show w - 1 - (w + h - 2 + k - (w + h - 2)) = x by omega]
      · rw [if_neg (by omega), if_neg (by omega), if_neg (by omega), show h - 1 - (w + h - 2 + k - (2 * w + h - 3)) = h - 1 by omega]
        omega
    refine sg_17_55 ⟨fun a => ⟨⟨by omega, by omega⟩, ⟨by omega, by omega⟩, ⟨by omega, by omega⟩, ⟨by omega, by omega⟩, ⟨by omega, by omega⟩, p_18 (w := w) (h := h) (M0 := M) (k := w + h - 2 + k) (by omega) (by omega) hr.symm ?_ hM' (fun M2 hM2 => ⟨rfl, ⟨by omega, by omega⟩, ih (by omega) (by omega) _ _ _ (by omega) ?_⟩)⟩, fun a => ⟨⟨by omega, by omega⟩, L4 0 (by omega) (by omega) _ _ _ (by omega) ?_⟩⟩
    · unfold g_rg
      rw [if_neg (by omega), if_neg (by omega), if_pos (by omega), hr]
    · rw [show w + h - 2 + (k + 1) = w + h - 2 + k + 1 by omega]
      exact hM2
    · rw [show 2 * w + h - 3 + 0 = w + h - 2 + k by omega]
      exact hM'
  have L2 : ∀ y, y ≤ h - 1 → 0 ≤ y → ∀ (o4 : Option jm_V) (M' : jm_Mem), g_rm w h M (w - 1 + y) M' → jm_run 17 (28, [some (jm_R 1), some (jm_I w), some (jm_I h), some (jm_I y), o4], [], M') Q := by
    refine jm_dn ?_
    intro y hy ih y0 o4 M' hM'
    have hb : 0 ≤ y * w ∧ y * w ≤ 30 := by
      rcases hcw with rfl | rfl | rfl | rfl | rfl <;> omega
    refine sg_17_28 ⟨⟨by omega, by omega⟩, fun a => ⟨⟨by omega, by omega⟩, ⟨by omega, by omega⟩, ⟨by omega, by omega⟩, ⟨by omega, by omega⟩, ⟨by omega, by omega⟩, p_18 (w := w) (h := h) (M0 := M) (k := w - 1 + y) (by omega) (by omega) ?_ ?_ hM' (fun M2 hM2 => ⟨rfl, ⟨by omega, by omega⟩, ih (by omega) (by omega) _ _ ?_⟩)⟩, fun a => ⟨⟨by omega, by omega⟩, L3 0 (by omega) (by omega) _ _ _ (by omega) ?_⟩⟩
    · unfold g_rn
      rw [if_neg (by omega), if_pos (by omega), show w - 1 + y - (w - 1) = y by omega]
    · unfold g_rg g_rn
      rw [if_neg (by omega), if_pos (by omega), if_neg (by omega), if_pos (by omega), show w - 1 + y - (w - 1) = y by omega]
    · rw [show w - 1 + (y + 1) = w - 1 + y + 1 by omega]
      exact hM2
    · rw [show w + h - 2 + 0 = w - 1 + y by omega]
      exact hM'
  have L1 : ∀ x, x ≤ w - 1 → 0 ≤ x → ∀ (M' : jm_Mem), g_rm w h M x M' → jm_run 17 (13, [some (jm_R 1), some (jm_I w), some (jm_I h), some (jm_I x), none], [], M') Q := by
    refine jm_dn ?_
    intro x hx ih x0 M' hM'
    refine sg_17_13 ⟨⟨by omega, by omega⟩, fun a => ⟨⟨by omega, by omega⟩, p_18 (w := w) (h := h) (M0 := M) (k := x) (by omega) (by omega) ?_ ?_ hM' (fun M2 hM2 => ⟨rfl, ⟨by omega, by omega⟩, ih (by omega) (by omega) _ hM2⟩)⟩, fun a => L2 0 (by omega) (by omega) _ _ ?_⟩
    · unfold g_rn
      rw [if_pos (by omega)]
    · unfold g_rg
      rw [if_pos (by omega)]
    · rw [show w - 1 + 0 = x by omega]
      exact hM'
  refine sc_17 ?_
  rw [hw, hh]
  refine L1 0 (by omega) (by omega) _ ⟨jm_fr_st (by decide), ?_, ?_, ?_⟩
  · intro i hi
    rw [jm_st_e, if_pos rfl, jm_up_o hi]
  · rw [jm_st_e, if_pos rfl, jm_up_s]
  · intro j j0 j1
    omega
/-- all tables as the grid is -/
def g_tb (w h : Int) (sl : Int → Int) (M : jm_Mem) : Prop := M 2 4 = w ∧ M 2 5 = h ∧ M 3 = sl ∧ M 1 12 = w * h ∧ g_pl w h sl (g_el w h sl) M ∧ M 1 15 = (((g_el w h sl).filter (fun x => decide (x % 3 = 2))).length : Int) ∧ M 1 14 = (w - 1) * (h - 1) + M 1 15 + 1 ∧ M 1 16 = 2 * w + 2 * h - 4 ∧ ∀ j, 0 ≤ j → j < 2 * w + 2 * h - 4 → M 14 j = g_rn w h j ∧ M 15 j = g_rg w h j
theorem p_11 {M : jm_Mem} {Q : jm_Q} (hg : g_ok (M 2 4) (M 2 5) (M 3)) (hQ : ∀ M', g_tb (M 2 4) (M 2 5) (M 3) M' → jm_fr [1, 7, 8, 9, 10, 11, 12, 13, 14, 15] M M' → Q none M') : jm_cl 11 [jm_R 1] M Q := by
  obtain ⟨hcw, hch⟩ := g_cases hg.1
  have hm := g_mul hg.1
  obtain ⟨g1, g2, g3, g4⟩ := id hg.1
  refine sc_11 ?_
  refine jm_fill (n := 108) (l := []) rfl rfl (by decide) ⟨rfl, ?_⟩
  refine jm_fill (n := 73) (l := []) rfl rfl (by decide) ⟨rfl, ?_⟩
  refine jm_fill (n := 288) (l := []) rfl rfl (by decide) ⟨rfl, ?_⟩
  simp only [jm_sr_e, Nat.reduceEqDiff, reduceIte]
  refine ⟨⟨by omega, by omega⟩, ?_⟩
  generalize hM0 : jm_st (jm_st (jm_st (jm_sr (jm_sr (jm_sr M 8 (jm_fl ((108 : Nat) : Int) (-1) (M 8))) 12 (jm_fl ((73 : Nat) : Int) 0 (M 12))) 13 (jm_fl ((288 : Nat) : Int) (-1) (M 13))) 1 12 (M 2 4 * M 2 5)) 1 13 0) 1 15 0 = M0
  have f0 : jm_fr [1, 7, 8, 9, 10, 11, 12, 13] M M0 := by
    rw [← hM0]
    refine jm_fr_tr (jm_fr_tr (jm_fr_tr (jm_fr_tr (jm_fr_tr (jm_fr_sr (by decide)) (jm_fr_sr (by decide))) (jm_fr_sr (by decide))) (jm_fr_st (by decide))) (jm_fr_st (by decide))) (jm_fr_st (by decide))
  have hw : M0 2 4 = M 2 4 := by rw [f0 2 (by decide)]
  have hh : M0 2 5 = M 2 5 := by rw [f0 2 (by decide)]
  have hs : M0 3 = M 3 := f0 3 (by decide)
  have h12 : M0 1 12 = M 2 4 * M 2 5 := by
    rw [← hM0]
    simp only [jm_st_e, Nat.reduceEqDiff, reduceIte]
    rw [jm_up_o (by omega), jm_up_o (by omega), jm_up_s]
  have hS0 : g_S (M 2 4) (M 2 5) (M 3) M0 0 M0 := by
    refine ⟨⟨jm_fr_rfl _ _, fun _ _ _ => rfl⟩, [], ?_, rfl, ?_⟩
    · rw [← hM0]
      unfold g_pl
      simp only [jm_st_e, jm_sr_e, Nat.reduceEqDiff, reduceIte]
      refine ⟨?_, ?_, ?_, ?_, ?_, ?_⟩
      · rw [jm_up_o (by omega), jm_up_s]
        rfl
      · intro k e hk
        cases hk
      · intro e e0 e1
        unfold jm_fl
        rw [if_pos (by omega), if_neg (by simp)]
      · intro e he
        cases he
      · intro f g0 g1
        unfold jm_fl
        rw [if_pos (by omega)]
        rfl
      · intro n d hn d0 d8
        have := g_nb hg.1 hn
        unfold jm_fl
        rw [if_pos (by omega), if_neg (by simp)]
    · rw [← hM0]
      simp only [jm_st_e, Nat.reduceEqDiff, reduceIte]
      rw [jm_up_s]
      rfl
  generalize hgw : M 2 4 = w at *
  generalize hgh : M 2 5 = h at *
  generalize hgs : M 3 = sl at *
  have L : ∀ y, y ≤ h → 0 ≤ y → ∀ (o2 : Option jm_V) (M' : jm_Mem), g_S w h sl M0 (3 * (y * w)) M' → jm_run 11 (29, [some (jm_R 1), some (jm_I y), o2], [], M') Q := by
    refine jm_dn ?_
    intro y hy ih y0 o2 M' hM'
    obtain ⟨c1, c2, c3⟩ := g_S_c hw hh hs hM'
    refine sg_11_29 ?_
    rw [c1, c2]
    refine ⟨fun a => ?_, fun a => ?_⟩
    · have L2 : ∀ x, x ≤ w → 0 ≤ x → ∀ (M' : jm_Mem), g_S w h sl M0 (3 * (y * w + x)) M' → jm_run 11 (36, [some (jm_R 1), some (jm_I y), some (jm_I x)], [], M') Q := by
        refine jm_dn ?_
        intro x hx ih2 x0 M1 hM1
        obtain ⟨c1, c2, c3⟩ := g_S_c hw hh hs hM1
        refine sg_11_36 ?_
        rw [c1]
        refine ⟨fun b => p_12 hg hw hh hs x0 b y0 a hM1 (fun M2 hM2 => ⟨rfl, ⟨by omega, by omega⟩, ih2 b (by omega) M2 hM2⟩), fun b => ⟨⟨by omega, by omega⟩, ih a (by omega) _ _ ?_⟩⟩
        rw [show 3 * ((y + 1) * w) = 3 * (y * w + x) by rw [Int.add_mul]; omega]
        exact hM1
      refine L2 0 (by omega) (by omega) M' ?_
      rw [Int.add_zero]
      exact hM'
    · have hy' : y = h := by omega
      subst hy'
      have hwh : w * y = y * w := Int.mul_comm _ _
      obtain ⟨⟨r1, r2⟩, l, pl, hl, hc⟩ := hM'
      have hrest : g_ls (fun e => g_E w y sl e) 108 (3 * (y * w)) = [] := by
        have : ∀ e, e ≤ 108 → 3 * (y * w) ≤ e → g_ls (fun e => g_E w y sl e) 108 e = [] := by
          refine jm_dn ?_
          intro e he ih h3
          by_cases hlt : e < 108
          · rw [g_ls_n hlt]
            · exact ih hlt (by omega)
            · intro q
              have := (g_Eb hg.1 q).2.2.2
              omega
          · exact g_ls_z (by omega)
        exact this _ (by omega) (by omega)
      rw [hrest, List.append_nil] at hl
      subst hl
      have hln : ((g_el w y sl).length : Int) ≤ 108 - 0 := g_ls_len 0 (by omega)
      have hlf := List.length_filter_le (fun x => decide (x % 3 = 2)) (g_el w y sl)
      have hmm : 0 ≤ (w - 1) * (y - 1) ∧ (w - 1) * (y - 1) ≤ 25 := by
        rcases hcw with rfl | rfl | rfl | rfl | rfl <;> omega
      refine ⟨⟨by omega, by omega⟩, ⟨by omega, by omega⟩, ⟨by omega, by omega⟩, ⟨by omega, by omega⟩, ⟨by omega, by omega⟩, ?_⟩
      refine p_17 (w := w) (h := y) hg.1 (by rw [jm_st_e, if_neg (by decide)]; exact c1) (by rw [jm_st_e, if_neg (by decide)]; exact c2) ?_
      rintro M2 ⟨t1, t2, t3, t4⟩
      refine ⟨rfl, hQ M2 ?_ ?_⟩
      · have k2 : M2 2 = M' 2 := by
          rw [t1 2 (by decide), jm_st_e, if_neg (by decide)]
        have k3 : M2 3 = M' 3 := by
          rw [t1 3 (by decide), jm_st_e, if_neg (by decide)]
        have kk : ∀ c, c ∉ [1, 14, 15] → M2 c = M' c := by
          intro c hc
          rw [t1 c hc, jm_st_e, if_neg (fun q => hc (by rw [q]; decide))]
        have k1 : ∀ i, i ≠ 14 → i ≠ 16 → M2 1 i = M' 1 i := by
          intro i hi hi2
          rw [t2 i hi2, jm_st_e, if_pos rfl, jm_up_o hi]
        refine ⟨by rw [k2]; exact c1, by rw [k2]; exact c2, by rw [k3]; exact c3, ?_, ?_, ?_, ?_, t3, t4⟩
        · rw [k1 12 (by omega) (by omega), r2 12 (by omega) (by omega)]
          exact h12
        · unfold g_pl at pl ⊢
          rw [k1 13 (by omega) (by omega), kk 7 (by decide), kk 8 (by decide), kk 9 (by decide), kk 10 (by decide), kk 11 (by decide), kk 12 (by decide), kk 13 (by decide)]
          exact pl
        · rw [k1 15 (by omega) (by omega)]
          exact hc
        · rw [k1 15 (by omega) (by omega), t2 14 (by omega), jm_st_e, if_pos rfl, jm_up_s]
      · intro c hc
        have hc1 : c ∉ [1, 14, 15] := fun q => hc (by simp at q ⊢; omega)
        have hc2 : c ∉ [1, 7, 8, 9, 10, 11, 12, 13] := fun q => hc (by simp at q ⊢; omega)
        rw [t1 c hc1, jm_st_e, if_neg (fun q => hc1 (by rw [q]; decide)), r1 c hc2, f0 c hc2]
  refine L 0 (by omega) (by omega) _ _ ?_
  rw [Int.zero_mul]
  exact hS0
