/-! FACTS OF THE GRID -/
theorem g_E0 {w h : Int} {sl : Int → Int} {n : Int} : g_E w h sl (3 * n) ↔ g_nd w h n ∧ n % w < w - 1 := by
  have h1 : 3 * n / 3 = n := by omega
  unfold g_E g_nd
  rw [h1]
  omega
theorem g_E1 {w h : Int} {sl : Int → Int} {n : Int} : g_E w h sl (3 * n + 1) ↔ g_nd w h n ∧ n / w < h - 1 := by
  have h1 : (3 * n + 1) / 3 = n := by omega
  unfold g_E g_nd
  rw [h1]
  omega
theorem g_E2 {w h : Int} {sl : Int → Int} {n : Int} : g_E w h sl (3 * n + 2) ↔ g_ce w h n ∧ 0 < sl n := by
  have h1 : (3 * n + 2) / 3 = n := by omega
  unfold g_E g_ce
  rw [h1]
  omega
theorem g_split {w h : Int} {sl : Int → Int} {e : Int} (he : g_E w h sl e) : ∃ n, (e = 3 * n ∧ g_nd w h n ∧ n % w < w - 1) ∨ (e = 3 * n + 1 ∧ g_nd w h n ∧ n / w < h - 1) ∨ (e = 3 * n + 2 ∧ g_ce w h n ∧ 0 < sl n) := by
  refine ⟨e / 3, ?_⟩
  unfold g_E at he
  unfold g_nd g_ce
  omega
theorem g_fr0 {sl : Int → Int} {n : Int} : g_fr sl (3 * n) = n := by
  unfold g_fr
  rw [if_neg (by omega)]
  omega
theorem g_fr1 {sl : Int → Int} {n : Int} : g_fr sl (3 * n + 1) = n := by
  unfold g_fr
  rw [if_neg (by omega)]
  omega
theorem g_fr2 {sl : Int → Int} {n : Int} : g_fr sl (3 * n + 2) = if sl n = 2 then n + 1 else n := by
  have h1 : (3 * n + 2) / 3 = n := by omega
  unfold g_fr
  rw [h1]
  split
  · rw [if_pos (by omega)]
  · rw [if_neg (by omega)]
theorem g_to0 {w : Int} {sl : Int → Int} {n : Int} : g_to w sl (3 * n) = n + 1 := by
  unfold g_to
  rw [if_pos (by omega)]
  omega
theorem g_to1 {w : Int} {sl : Int → Int} {n : Int} : g_to w sl (3 * n + 1) = n + w := by
  unfold g_to
  rw [if_neg (by omega), if_pos (by omega)]
  omega
theorem g_to2 {w : Int} {sl : Int → Int} {n : Int} : g_to w sl (3 * n + 2) = if sl n = 2 then n + w else n + w + 1 := by
  have h1 : (3 * n + 2) / 3 = n := by omega
  unfold g_to
  rw [if_neg (by omega), h1]
  split
  · rw [if_pos (by omega)]
  · rw [if_neg (by omega)]
theorem g_lf0 {w h : Int} {sl : Int → Int} {n : Int} : g_lf w h sl (3 * n) = g_fa w h sl (n % w) (n / w - 1) 2 := by
  have h1 : (3 * n) / 3 = n := by omega
  unfold g_lf
  rw [if_pos (by omega), h1]
theorem g_lf1 {w h : Int} {sl : Int → Int} {n : Int} : g_lf w h sl (3 * n + 1) = g_fa w h sl (n % w) (n / w) 3 := by
  have h1 : (3 * n + 1) / 3 = n := by omega
  unfold g_lf
  rw [if_neg (by omega), if_pos (by omega), h1]
theorem g_lf2 {w h : Int} {sl : Int → Int} {n : Int} : g_lf w h sl (3 * n + 2) = if sl n = 1 then 2 * n else 2 * n + 1 := by
  have h1 : (3 * n + 2) / 3 = n := by omega
  unfold g_lf
  rw [if_neg (by omega), if_neg (by omega), h1]
theorem g_rt0 {w h : Int} {sl : Int → Int} {n : Int} : g_rt w h sl (3 * n) = g_fa w h sl (n % w) (n / w) 0 := by
  have h1 : (3 * n) / 3 = n := by omega
  unfold g_rt
  rw [if_pos (by omega), h1]
theorem g_rt1 {w h : Int} {sl : Int → Int} {n : Int} : g_rt w h sl (3 * n + 1) = g_fa w h sl (n % w - 1) (n / w) 1 := by
  have h1 : (3 * n + 1) / 3 = n := by omega
  unfold g_rt
  rw [if_neg (by omega), if_pos (by omega), h1]
theorem g_rt2 {w h : Int} {sl : Int → Int} {n : Int} : g_rt w h sl (3 * n + 2) = if sl n = 1 then 2 * n + 1 else 2 * n := by
  have h1 : (3 * n + 2) / 3 = n := by omega
  unfold g_rt
  rw [if_neg (by omega), if_neg (by omega), h1]
/-- the direction of an edge from where it comes -/
def g_di (sl : Int → Int) (e : Int) : Int := if e % 3 = 0 then 2 else if e % 3 = 1 then 4 else if sl (e / 3) = 1 then 3 else 5
theorem g_di0 {sl : Int → Int} {n : Int} : g_di sl (3 * n) = 2 := by
  unfold g_di
  rw [if_pos (by omega)]
theorem g_di1 {sl : Int → Int} {n : Int} : g_di sl (3 * n + 1) = 4 := by
  unfold g_di
  rw [if_neg (by omega), if_pos (by omega)]
theorem g_di2 {sl : Int → Int} {n : Int} : g_di sl (3 * n + 2) = if sl n = 1 then 3 else 5 := by
  have h1 : (3 * n + 2) / 3 = n := by omega
  unfold g_di
  rw [if_neg (by omega), if_neg (by omega), h1]
/-- what is known of a grid: its sides, its slants -/
abbrev g_ok (w h : Int) (sl : Int → Int) : Prop := g_sd w h ∧ ∀ n, 0 ≤ sl n ∧ sl n ≤ 2 ∧ (sl n ≠ 0 → g_ce w h n)
theorem g_Eb {w h : Int} {sl : Int → Int} (hg : g_sd w h) {e : Int} (he : g_E w h sl e) : 0 ≤ e ∧ e < 108 ∧ 0 ≤ e / 3 ∧ e / 3 < w * h := by
  have := g_mul hg
  unfold g_E at he
  omega
theorem g_ends {w h : Int} {sl : Int → Int} (hg : g_sd w h) {e : Int} (he : g_E w h sl e) : g_nd w h (g_fr sl e) ∧ g_nd w h (g_to w sl e) ∧ g_fr sl e ≠ g_to w sl e := by
  obtain ⟨n, he⟩ := g_split he
  obtain ⟨hw, hh⟩ := g_cases hg
  rcases he with ⟨rfl, h1, h2⟩ | ⟨rfl, h1, h2⟩ | ⟨rfl, h1, h2⟩
  · rw [g_fr0, g_to0]
    unfold g_nd at h1 ⊢
    rcases hw with rfl | rfl | rfl | rfl | rfl <;> omega
  · rw [g_fr1, g_to1]
    unfold g_nd at h1 ⊢
    rcases hw with rfl | rfl | rfl | rfl | rfl <;> omega
  · rw [g_fr2, g_to2]
    unfold g_nd
    unfold g_ce at h1
    split
    · rcases hw with rfl | rfl | rfl | rfl | rfl <;> omega
    · rcases hw with rfl | rfl | rfl | rfl | rfl <;> omega
theorem g_nb {w h : Int} (hg : g_sd w h) {n : Int} (hn : g_nd w h n) : 0 ≤ n ∧ n < 36 := by
  have := g_mul hg
  unfold g_nd at hn
  omega
/-- a face at a side of a place: outside, or a face of a cell -/
theorem g_fa_F {w h : Int} {sl : Int → Int} (hg : g_ok w h sl) {x y sd : Int} (hx : -1 ≤ x) (hx2 : x < w) (hy : -1 ≤ y) (hy2 : y < h) : g_F w h sl (g_fa w h sl x y sd) ∧ 0 ≤ g_fa w h sl x y sd ∧ g_fa w h sl x y sd ≤ 72 := by
  obtain ⟨hg, hs⟩ := hg
  obtain ⟨hw, hh⟩ := g_cases hg
  unfold g_fa
  split
  · rename_i hc
    have hn : (y * w + x) % w = x ∧ (y * w + x) / w = y ∧ 0 ≤ y * w + x ∧ y * w + x < w * h ∧ y * w + x ≤ 28 := by
      rcases hw with rfl | rfl | rfl | rfl | rfl <;> omega
    generalize y * w + x = n at hn ⊢
    have hce : g_ce w h n := ⟨by omega, by omega, by omega, by omega⟩
    split
    · have h2 : (2 * n + 1) / 2 = n := by omega
      refine ⟨Or.inr ⟨by omega, ?_, ?_⟩, by omega, by omega⟩
      · rw [h2]; exact hce
      · rw [h2]; omega
    · have h2 : (2 * n) / 2 = n := by omega
      refine ⟨Or.inr ⟨by omega, ?_, Or.inl (by omega)⟩, by omega, by omega⟩
      rw [h2]; exact hce
  · exact ⟨Or.inl rfl, by omega, by omega⟩
theorem g_lfF {w h : Int} {sl : Int → Int} (hg : g_ok w h sl) {e : Int} (he : g_E w h sl e) : g_F w h sl (g_lf w h sl e) ∧ 0 ≤ g_lf w h sl e ∧ g_lf w h sl e ≤ 72 := by
  have hm := g_mul hg.1
  obtain ⟨n, he⟩ := g_split he
  rcases he with ⟨rfl, h1, h2⟩ | ⟨rfl, h1, h2⟩ | ⟨rfl, h1, h2⟩
  · have := g_xy hg.1 h1.1 h1.2
    rw [g_lf0]
    exact g_fa_F hg (by omega) (by omega) (by omega) (by omega)
  · have := g_xy hg.1 h1.1 h1.2
    rw [g_lf1]
    exact g_fa_F hg (by omega) (by omega) (by omega) (by omega)
  · have h3 : (2 * n) / 2 = n := by omega
    have h4 : (2 * n + 1) / 2 = n := by omega
    rw [g_lf2]
    split
    · refine ⟨Or.inr ⟨by omega, by rw [h3]; exact h1, Or.inl (by omega)⟩, by omega, by omega⟩
    · refine ⟨Or.inr ⟨by omega, by rw [h4]; exact h1, Or.inr (by rw [h4]; exact h2)⟩, by omega, by omega⟩
theorem g_rtF {w h : Int} {sl : Int → Int} (hg : g_ok w h sl) {e : Int} (he : g_E w h sl e) : g_F w h sl (g_rt w h sl e) ∧ 0 ≤ g_rt w h sl e ∧ g_rt w h sl e ≤ 72 := by
  have hm := g_mul hg.1
  obtain ⟨n, he⟩ := g_split he
  rcases he with ⟨rfl, h1, h2⟩ | ⟨rfl, h1, h2⟩ | ⟨rfl, h1, h2⟩
  · have := g_xy hg.1 h1.1 h1.2
    rw [g_rt0]
    exact g_fa_F hg (by omega) (by omega) (by omega) (by omega)
  · have := g_xy hg.1 h1.1 h1.2
    rw [g_rt1]
    exact g_fa_F hg (by omega) (by omega) (by omega) (by omega)
  · have h3 : (2 * n) / 2 = n := by omega
    have h4 : (2 * n + 1) / 2 = n := by omega
    rw [g_rt2]
    split
    · refine ⟨Or.inr ⟨by omega, by rw [h4]; exact h1, Or.inr (by rw [h4]; exact h2)⟩, by omega, by omega⟩
    · refine ⟨Or.inr ⟨by omega, by rw [h3]; exact h1, Or.inl (by omega)⟩, by omega, by omega⟩
/-- the face at a side tells its cell -/
theorem g_fa_in {w h : Int} {sl : Int → Int} {x y sd : Int} (hg : g_sd w h) (h0 : 0 ≤ x) (h1 : 0 ≤ y) (h2 : x < w - 1) (h3 : y < h - 1) : g_fa w h sl x y sd / 2 = y * w + x ∧ 0 ≤ y * w + x ∧ y * w + x ≤ 28 := by
  obtain ⟨hw, hh⟩ := g_cases hg
  unfold g_fa
  rw [if_pos ⟨h0, h1, h2, h3⟩]
  have hb : 0 ≤ y * w + x ∧ y * w + x ≤ 28 := by
    rcases hw with rfl | rfl | rfl | rfl | rfl <;> omega
  split <;> omega
theorem g_fa_out {w h : Int} {sl : Int → Int} {x y sd : Int} (h0 : ¬ (0 ≤ x ∧ 0 ≤ y ∧ x < w - 1 ∧ y < h - 1)) : g_fa w h sl x y sd = 72 := by
  unfold g_fa
  rw [if_neg h0]
/-- the faces of an edge are two -/
theorem g_two {w h : Int} {sl : Int → Int} (hg : g_sd w h) {e : Int} (he : g_E w h sl e) : g_lf w h sl e ≠ g_rt w h sl e := by
  obtain ⟨n, he⟩ := g_split he
  rcases he with ⟨rfl, h1, h2⟩ | ⟨rfl, h1, h2⟩ | ⟨rfl, h1, h2⟩
  · obtain ⟨x1, x2, x3, x4⟩ := g_xy hg h1.1 h1.2
    rw [g_lf0, g_rt0]
    intro q
    by_cases a : 0 < n / w
    · obtain ⟨b1, b2, b3⟩ := g_fa_in (sl := sl) (sd := 2) hg x1 (show 0 ≤ n / w - 1 by omega) h2 (by omega)
      by_cases b : n / w < h - 1
      · obtain ⟨c1, c2, c3⟩ := g_fa_in (sl := sl) (sd := 0) hg x1 x3 h2 b
        rw [q, c1, Int.sub_mul] at b1
        have := hg.1
        omega
      · rw [g_fa_out (y := n / w) (by omega)] at q
        omega
    · rw [g_fa_out (y := n / w - 1) (by omega)] at q
      by_cases b : n / w < h - 1
      · obtain ⟨c1, c2, c3⟩ := g_fa_in (sl := sl) (sd := 0) hg x1 x3 h2 b
        omega
      · have := hg.2.2.1
        omega
  · obtain ⟨x1, x2, x3, x4⟩ := g_xy hg h1.1 h1.2
    rw [g_lf1, g_rt1]
    intro q
    by_cases a : 0 < n % w
    · obtain ⟨b1, b2, b3⟩ := g_fa_in (sl := sl) (sd := 1) hg (show 0 ≤ n % w - 1 by omega) x3 (by omega) h2
      by_cases b : n % w < w - 1
      · obtain ⟨c1, c2, c3⟩ := g_fa_in (sl := sl) (sd := 3) hg x1 x3 b h2
        rw [← q, c1] at b1
        omega
      · rw [g_fa_out (x := n % w) (by omega)] at q
        omega
    · rw [g_fa_out (x := n % w - 1) (by omega)] at q
      by_cases b : n % w < w - 1
      · obtain ⟨c1, c2, c3⟩ := g_fa_in (sl := sl) (sd := 3) hg x1 x3 b h2
        omega
      · have := hg.1
        omega
  · rw [g_lf2, g_rt2]
    split <;> omega
