/-! TEXTS: grids that lines make -/
theorem y_ap_gd {w h k x y f g : Int} {G : y_G} (hG : y_gd w h G) (hk : 0 ≤ k ∧ k ≤ 4) (hx : k ≠ 4 → 0 ≤ x ∧ x ≤ w - (if k = 1 then 1 else 2) ∧ 0 ≤ y ∧ y ≤ h - (if k = 0 then 1 else 2)) (hf : -99 ≤ f ∧ f ≤ 99) (hg' : -f ≤ g ∧ g ≤ 99) : y_gd w h (y_ap w h (k, x, y, f, g) G) := by
  obtain ⟨h1, h2, h3⟩ := hG
  obtain ⟨hcw, hch⟩ := g_cases h1.1
  have hm := g_mul h1.1
  obtain ⟨g1, g2, g3, g4⟩ := id h1.1
  have hsl : g_ok w h (y_sl w k x y G.1) := by
    refine ⟨h1.1, fun v => ?_⟩
    have hv := h1.2 v
    have cell : (k = 2 ∨ k = 3) → g_ce w h (y * w + x) := by
      intro hk2
      have hx := hx (by omega)
      rw [if_neg (by omega), if_neg (by omega)] at hx
      have : (y * w + x) % w = x ∧ (y * w + x) / w = y ∧ 0 ≤ y * w + x ∧ y * w + x < w * h := by
        rcases hcw with rfl | rfl | rfl | rfl | rfl <;> omega
      exact ⟨this.2.2.1, this.2.2.2, by omega, by omega⟩
    unfold y_sl
    by_cases q2 : k = 2
    · rw [if_pos q2, jm_up_e]
      by_cases q : v = y * w + x
      · rw [if_pos q]
        exact ⟨by omega, by omega, fun _ => by rw [q]; exact cell (Or.inl q2)⟩
      · rw [if_neg q]; exact hv
    · rw [if_neg q2]
      by_cases q3 : k = 3
      · rw [if_pos q3, jm_up_e]
        by_cases q : v = y * w + x
        · rw [if_pos q]
          exact ⟨by omega, by omega, fun _ => by rw [q]; exact cell (Or.inr q3)⟩
        · rw [if_neg q]; exact hv
      · rw [if_neg q3]; exact hv
  refine ⟨hsl, fun e => ?_, fun e he => ?_⟩
  · have he := h2 e
    show -99 ≤ (if y_on w h k x y (y_sl w k x y G.1) e then f else G.2.1 e) ∧ (if y_on w h k x y (y_sl w k x y G.1) e then f else G.2.1 e) ≤ 99 ∧ -99 ≤ (if y_on w h k x y (y_sl w k x y G.1) e then g else G.2.2 e) ∧ (if y_on w h k x y (y_sl w k x y G.1) e then g else G.2.2 e) ≤ 99 ∧ 0 ≤ (if y_on w h k x y (y_sl w k x y G.1) e then f else G.2.1 e) + (if y_on w h k x y (y_sl w k x y G.1) e then g else G.2.2 e)
    by_cases z : y_on w h k x y (y_sl w k x y G.1) e
    · rw [if_pos z, if_pos z]; omega
    · rw [if_neg z, if_neg z]; exact he
  · have hn : ¬ y_on w h k x y (y_sl w k x y G.1) e := by
      intro z
      by_cases q : k = 4
      · unfold y_on at z
        rw [if_pos q] at z
        obtain ⟨b1, b2, -, -⟩ := g_Eb h1.1 z
        exact he ⟨b1, b2⟩
      · unfold y_on at z
        rw [if_neg q] at z
        have hx := hx q
        have bx : x < w ∧ y < h := by
          by_cases q1 : k = 1
          · rw [if_pos q1, if_neg (by omega)] at hx; omega
          · rw [if_neg q1] at hx
            by_cases q0 : k = 0
            · rw [if_pos q0] at hx; omega
            · rw [if_neg q0] at hx; omega
        have : 0 ≤ y * w + x ∧ y * w + x < w * h := by
          rcases hcw with rfl | rfl | rfl | rfl | rfl <;> omega
        by_cases q2 : k < 2
        · rw [if_pos q2] at z; omega
        · rw [if_neg q2] at z; omega
    show (if y_on w h k x y (y_sl w k x y G.1) e then f else G.2.1 e) = 0 ∧ (if y_on w h k x y (y_sl w k x y G.1) e then g else G.2.2 e) = 0
    rw [if_neg hn, if_neg hn]
    exact h3 e he
