/-! THE GRID: nodes, cells, edges, faces as numbers -/
abbrev g_nd (w h n : Int) : Prop := 0 ≤ n ∧ n < w * h
abbrev g_ce (w h n : Int) : Prop := 0 ≤ n ∧ n < w * h ∧ n % w < w - 1 ∧ n / w < h - 1
abbrev g_E (w h : Int) (sl : Int → Int) (e : Int) : Prop := 0 ≤ e ∧ e / 3 < w * h ∧ ((e % 3 = 0 ∧ e / 3 % w < w - 1) ∨ (e % 3 = 1 ∧ e / 3 / w < h - 1) ∨ (e % 3 = 2 ∧ e / 3 % w < w - 1 ∧ e / 3 / w < h - 1 ∧ 0 < sl (e / 3)))
def g_fr (sl : Int → Int) (e : Int) : Int := if e % 3 = 2 ∧ sl (e / 3) = 2 then e / 3 + 1 else e / 3
def g_to (w : Int) (sl : Int → Int) (e : Int) : Int := if e % 3 = 0 then e / 3 + 1 else if e % 3 = 1 ∨ sl (e / 3) = 2 then e / 3 + w else e / 3 + w + 1
def g_fa (w h : Int) (sl : Int → Int) (x y sd : Int) : Int := if 0 ≤ x ∧ 0 ≤ y ∧ x < w - 1 ∧ y < h - 1 then (if 0 < sl (y * w + x) ∧ (sd = 2 ∨ (sd = 1 ∧ sl (y * w + x) = 2) ∨ (sd = 3 ∧ sl (y * w + x) = 1)) then 2 * (y * w + x) + 1 else 2 * (y * w + x)) else 72
def g_lf (w h : Int) (sl : Int → Int) (e : Int) : Int := if e % 3 = 0 then g_fa w h sl (e / 3 % w) (e / 3 / w - 1) 2 else if e % 3 = 1 then g_fa w h sl (e / 3 % w) (e / 3 / w) 3 else if sl (e / 3) = 1 then 2 * (e / 3) else 2 * (e / 3) + 1
def g_rt (w h : Int) (sl : Int → Int) (e : Int) : Int := if e % 3 = 0 then g_fa w h sl (e / 3 % w) (e / 3 / w) 0 else if e % 3 = 1 then g_fa w h sl (e / 3 % w - 1) (e / 3 / w) 1 else if sl (e / 3) = 1 then 2 * (e / 3) + 1 else 2 * (e / 3)
abbrev g_F (w h : Int) (sl : Int → Int) (f : Int) : Prop := f = 72 ∨ (0 ≤ f ∧ g_ce w h (f / 2) ∧ (f % 2 = 0 ∨ 0 < sl (f / 2)))
/-- sides -/
abbrev g_sd (w h : Int) : Prop := 2 ≤ w ∧ w ≤ 6 ∧ 2 ≤ h ∧ h ≤ 6
theorem g_cases {w h : Int} (hg : g_sd w h) : (w = 2 ∨ w = 3 ∨ w = 4 ∨ w = 5 ∨ w = 6) ∧ (h = 2 ∨ h = 3 ∨ h = 4 ∨ h = 5 ∨ h = 6) := by
  unfold g_sd at hg
  omega
theorem g_mul {w h : Int} (hg : g_sd w h) : 4 ≤ w * h ∧ w * h ≤ 36 := by
  obtain ⟨hw, hh⟩ := g_cases hg
  rcases hw with rfl | rfl | rfl | rfl | rfl <;> omega
theorem jm_dv_e {x y : Int} (h : 0 ≤ x) : jm_dv x y = x / y := if_pos h
theorem jm_rm_e {x y : Int} (h : 0 ≤ x) : jm_rm x y = x % y := if_pos h
/-! THE REFERENCE'S GRID -/
theorem e_119 (a b c : Int) (M : jm_Mem) (Q : jm_Q) : jm_cl 119 [jm_I a, jm_I b, jm_I c] M Q ↔ Q (some (jm_I (jm_B (b ≤ a ∧ a ≤ c)))) M := by
  refine jm_cl_e (fun Q h => sc_119 ?_) Q
  unfold jm_B at h
  refine ⟨fun a => ?_, fun a => ⟨fun b => ?_, fun b => ?_⟩⟩
  · rw [if_neg (by omega)] at h
    exact ⟨by omega, by omega, h⟩
  · rw [if_neg (by omega)] at h
    exact ⟨by omega, by omega, h⟩
  · rw [if_pos (by omega)] at h
    exact ⟨by omega, by omega, h⟩
theorem e_121 {M : jm_Mem} (hg : g_sd (M 67 1) (M 67 2)) (Q : jm_Q) : jm_cl 121 [jm_R 67] M Q ↔ Q (some (jm_I (M 67 1 * M 67 2))) M := by
  refine jm_cl_e (fun Q h => sc_121 ?_) Q
  have := g_mul hg
  exact ⟨⟨by omega, by omega⟩, h⟩
theorem e_122 {M : jm_Mem} (hg : g_sd (M 67 1) (M 67 2)) (n : Int) (Q : jm_Q) : jm_cl 122 [jm_R 67, jm_I n] M Q ↔ Q (some (jm_I (jm_B (g_nd (M 67 1) (M 67 2) n)))) M := by
  refine jm_cl_e (fun Q h => sc_122 ?_) Q
  have := g_mul hg
  rw [e_121 hg]
  refine ⟨_, rfl, ⟨by omega, by omega⟩, ?_⟩
  rw [e_119]
  refine ⟨_, rfl, jm_Bb.1, jm_Bb.2, ?_⟩
  rwa [jm_Bc (R := g_nd (M 67 1) (M 67 2) n) (by unfold g_nd; omega)]
theorem e_123 {M : jm_Mem} (hg : g_sd (M 67 1) (M 67 2)) (n : Int) (Q : jm_Q) : jm_cl 123 [jm_R 67, jm_I n] M Q ↔ Q (some (jm_I (jm_B (g_ce (M 67 1) (M 67 2) n)))) M := by
  refine jm_cl_e (fun Q h => sc_123 ?_) Q
  obtain ⟨g1, g2, g3, g4⟩ := hg
  rw [e_122 ⟨g1, g2, g3, g4⟩]
  refine ⟨_, rfl, fun a => ⟨by omega, by omega, ?_⟩, fun a => ⟨by omega, ⟨by omega, by omega⟩, fun b => ⟨by omega, ⟨by omega, by omega⟩, fun c => ⟨by omega, by omega, ?_⟩, fun c => ⟨by omega, by omega, ?_⟩⟩, fun b => ⟨by omega, by omega, ?_⟩⟩⟩
  · rw [jm_B0] at a
    rwa [jm_Bf (by omega)] at h
  · rw [jm_Bn] at a
    rw [jm_rm_e a.1] at b
    rw [jm_dv_e a.1] at c
    rwa [jm_Bt (by omega)] at h
  · rw [jm_Bn] at a
    rw [jm_dv_e a.1] at c
    rwa [jm_Bf (by omega)] at h
  · rw [jm_Bn] at a
    rw [jm_rm_e a.1] at b
    rwa [jm_Bf (by omega)] at h
theorem e_124 {M : jm_Mem} (hg : g_sd (M 67 1) (M 67 2)) (e : Int) (Q : jm_Q) : jm_cl 124 [jm_R 67, jm_I e] M Q ↔ Q (some (jm_I (jm_B (g_E (M 67 1) (M 67 2) (M 68) e)))) M := by
  refine jm_cl_e (fun Q h => sc_124 ?_) Q
  have hm := g_mul hg
  obtain ⟨g1, g2, g3, g4⟩ := id hg
  refine ⟨by omega, fun a => ⟨by omega, by omega, ?_⟩, fun a => ?_⟩
  · rwa [jm_Bf (by omega)] at h
  · rw [jm_dv_e (by omega), jm_rm_e (by omega)]
    have hn : 0 ≤ e / 3 := by omega
    simp only [jm_rm_e hn, jm_dv_e hn]
    rw [e_122 hg]
    refine ⟨_, rfl, fun b => ⟨by omega, by omega, ?_⟩, fun b => ⟨by omega, fun c => ⟨by omega, ⟨by omega, by omega⟩, fun d => ⟨by omega, by omega, ?_⟩, fun d => ⟨by omega, by omega, ?_⟩⟩, fun c => ⟨by omega, fun d => ⟨by omega, ⟨by omega, by omega⟩, fun f => ⟨by omega, by omega, ?_⟩, fun f => ⟨by omega, by omega, ?_⟩⟩, fun d => ?_⟩⟩⟩
    · rw [jm_B0] at b
      rwa [jm_Bf (by omega)] at h
    · rw [jm_Bn] at b
      rwa [jm_Bt (by omega)] at h
    · rw [jm_Bn] at b
      rwa [jm_Bf (by omega)] at h
    · rw [jm_Bn] at b
      rwa [jm_Bt (by omega)] at h
    · rw [jm_Bn] at b
      rwa [jm_Bf (by omega)] at h
    · rw [jm_Bn] at b
      rw [e_123 hg]
      refine ⟨_, rfl, fun f => ⟨by omega, by omega, ?_⟩, fun f => ⟨by omega, by omega, fun k => ⟨by omega, by omega, ?_⟩, fun k => ⟨by omega, by omega, ?_⟩⟩⟩
      · rw [jm_B0] at f
        rwa [jm_Bf (by omega)] at h
      · rw [jm_Bn] at f
        rwa [jm_Bt (by omega)] at h
      · rwa [jm_Bf (by omega)] at h
theorem e_125 {M : jm_Mem} {e : Int} (h0 : 0 ≤ e) (h1 : e < 108) (Q : jm_Q) : jm_cl 125 [jm_R 67, jm_I e] M Q ↔ Q (some (jm_I (g_fr (M 68) e))) M := by
  refine jm_cl_e (fun Q h => sc_125 ?_) Q
  rw [jm_dv_e h0, jm_rm_e h0]
  unfold g_fr at h
  refine ⟨by omega, fun a => ⟨by omega, by omega, by omega, fun b => ⟨by omega, ⟨by omega, by omega⟩, ?_⟩, fun b => ⟨by omega, ?_⟩⟩, fun a => ⟨by omega, ?_⟩⟩
  · rwa [if_pos ⟨a, b⟩] at h
  · rwa [if_neg (fun q => b q.2)] at h
  · rwa [if_neg (fun q => a q.1)] at h
theorem e_126 {M : jm_Mem} (hg : g_sd (M 67 1) (M 67 2)) {e : Int} (h0 : 0 ≤ e) (h1 : e < 108) (Q : jm_Q) : jm_cl 126 [jm_R 67, jm_I e] M Q ↔ Q (some (jm_I (g_to (M 67 1) (M 68) e))) M := by
  refine jm_cl_e (fun Q h => sc_126 ?_) Q
  rw [jm_dv_e h0, jm_rm_e h0]
  unfold g_to at h
  obtain ⟨g1, g2, g3, g4⟩ := hg
  refine ⟨by omega, by omega, fun a => ⟨⟨by omega, by omega⟩, ?_⟩, fun a => ⟨by omega, fun b => ⟨⟨by omega, by omega⟩, ?_⟩, fun b => ⟨by omega, by omega, fun c => ⟨⟨by omega, by omega⟩, ?_⟩, fun c => ⟨⟨by omega, by omega⟩, ⟨by omega, by omega⟩, ?_⟩⟩⟩⟩
  · rwa [if_pos a] at h
  · rwa [if_neg a, if_pos (Or.inl b)] at h
  · rwa [if_neg a, if_pos (Or.inr c)] at h
  · rwa [if_neg a, if_neg (fun q => q.elim b c)] at h
theorem e_127 {M : jm_Mem} (hg : g_sd (M 67 1) (M 67 2)) {x y : Int} (h0 : -1 ≤ x) (h1 : x < M 67 1) (h2 : -1 ≤ y) (h3 : y < M 67 2) (sd : Int) (Q : jm_Q) : jm_cl 127 [jm_R 67, jm_I x, jm_I y, jm_I sd] M Q ↔ Q (some (jm_I (g_fa (M 67 1) (M 67 2) (M 68) x y sd))) M := by
  have hb : -6 ≤ y * M 67 1 ∧ y * M 67 1 ≤ 36 ∧ (0 ≤ y → 0 ≤ y * M 67 1) ∧ (y < M 67 2 - 1 → y * M 67 1 ≤ 24) := by
    obtain ⟨hw, hh⟩ := g_cases hg
    rcases hw with e | e | e | e | e <;> rw [e] <;> omega
  obtain ⟨g1, g2, g3, g4⟩ := hg
  refine jm_cl_e (fun Q h => sc_127 ?_) Q
  unfold g_fa at h
  generalize hc : y * M 67 1 = c at h hb ⊢
  refine ⟨⟨by omega, by omega⟩, ⟨by omega, by omega⟩, fun a => sg_127_23 ?_, fun a => ⟨fun b => sg_127_23 ?_, fun b => ⟨⟨by omega, by omega⟩, fun c => ⟨⟨by omega, by omega⟩, fun d => ⟨by omega, by omega, fun f => ⟨fun k => sg_127_51 (sg_127_54 ⟨⟨by omega, by omega⟩, fun q => absurd q (by omega), fun _ => ⟨⟨by omega, by omega⟩, ?_⟩⟩), fun k => ⟨fun l => ⟨by omega, by omega, fun n => sg_127_51 (sg_127_54 ⟨⟨by omega, by omega⟩, fun q => absurd q (by omega), fun _ => ⟨⟨by omega, by omega⟩, ?_⟩⟩), fun n => sg_127_42 ⟨fun q => absurd q (by omega), fun _ => sg_127_53 (sg_127_54 ⟨⟨by omega, by omega⟩, fun _ => ⟨⟨by omega, by omega⟩, ?_⟩, fun q => absurd rfl q⟩)⟩⟩, fun l => sg_127_42 ⟨fun n => ⟨by omega, by omega, fun o => sg_127_51 (sg_127_54 ⟨⟨by omega, by omega⟩, fun q => absurd q (by omega), fun _ => ⟨⟨by omega, by omega⟩, ?_⟩⟩), fun o => sg_127_53 (sg_127_54 ⟨⟨by omega, by omega⟩, fun _ => ⟨⟨by omega, by omega⟩, ?_⟩, fun q => absurd rfl q⟩)⟩, fun n => sg_127_53 (sg_127_54 ⟨⟨by omega, by omega⟩, fun _ => ⟨⟨by omega, by omega⟩, ?_⟩, fun q => absurd rfl q⟩)⟩⟩⟩, fun f => sg_127_53 (sg_127_54 ⟨⟨by omega, by omega⟩, fun _ => ⟨⟨by omega, by omega⟩, ?_⟩, fun q => absurd rfl q⟩)⟩, fun d => sg_127_23 ?_⟩, fun c => sg_127_23 ?_⟩⟩⟩
  all_goals first
    | (rw [if_neg (by omega)] at h; exact h)
    | (rw [if_pos (by omega), if_pos (by omega)] at h; exact h)
    | (rw [if_pos (by omega), if_neg (by omega)] at h; rw [Int.add_zero]; exact h)
theorem g_xy {w h n : Int} (hg : g_sd w h) (h0 : 0 ≤ n) (h1 : n < w * h) : 0 ≤ n % w ∧ n % w < w ∧ 0 ≤ n / w ∧ n / w < h := by
  obtain ⟨hw, hh⟩ := g_cases hg
  rcases hw with rfl | rfl | rfl | rfl | rfl <;> omega
theorem e_128 {M : jm_Mem} (hg : g_sd (M 67 1) (M 67 2)) {e : Int} (h0 : 0 ≤ e) (h1 : e / 3 < M 67 1 * M 67 2) (Q : jm_Q) : jm_cl 128 [jm_R 67, jm_I e] M Q ↔ Q (some (jm_I (g_lf (M 67 1) (M 67 2) (M 68) e))) M := by
  refine jm_cl_e (fun Q h => sc_128 ?_) Q
  have hm := g_mul hg
  obtain ⟨g1, g2, g3, g4⟩ := id hg
  have hn : 0 ≤ e / 3 := by omega
  obtain ⟨x1, x2, x3, x4⟩ := g_xy hg hn h1
  simp only [jm_dv_e h0, jm_rm_e h0, jm_dv_e hn, jm_rm_e hn]
  unfold g_lf at h
  refine ⟨by omega, by omega, by omega, by omega, fun a => ⟨⟨by omega, by omega⟩, ?_⟩, fun a => ⟨by omega, fun b => ?_, fun b => ⟨by omega, by omega, fun c => ⟨⟨by omega, by omega⟩, ?_⟩, fun c => ⟨⟨by omega, by omega⟩, ⟨by omega, by omega⟩, ?_⟩⟩⟩⟩
  · rw [e_127 hg (by omega) (by omega) (by omega) (by omega)]
    rw [if_pos a] at h
    exact ⟨_, rfl, h⟩
  · rw [e_127 hg (by omega) (by omega) (by omega) (by omega)]
    rw [if_neg a, if_pos b] at h
    exact ⟨_, rfl, h⟩
  · rwa [if_neg a, if_neg b, if_pos c] at h
  · rwa [if_neg a, if_neg b, if_neg c] at h
theorem e_129 {M : jm_Mem} (hg : g_sd (M 67 1) (M 67 2)) {e : Int} (h0 : 0 ≤ e) (h1 : e / 3 < M 67 1 * M 67 2) (Q : jm_Q) : jm_cl 129 [jm_R 67, jm_I e] M Q ↔ Q (some (jm_I (g_rt (M 67 1) (M 67 2) (M 68) e))) M := by
  refine jm_cl_e (fun Q h => sc_129 ?_) Q
  have hm := g_mul hg
  obtain ⟨g1, g2, g3, g4⟩ := id hg
  have hn : 0 ≤ e / 3 := by omega
  obtain ⟨x1, x2, x3, x4⟩ := g_xy hg hn h1
  simp only [jm_dv_e h0, jm_rm_e h0, jm_dv_e hn, jm_rm_e hn]
  unfold g_rt at h
  refine ⟨by omega, by omega, by omega, by omega, fun a => ?_, fun a => ⟨by omega, fun b => ⟨⟨by omega, by omega⟩, ?_⟩, fun b => ⟨by omega, by omega, fun c => ⟨⟨by omega, by omega⟩, ⟨by omega, by omega⟩, ?_⟩, fun c => ⟨⟨by omega, by omega⟩, ?_⟩⟩⟩⟩
  · rw [e_127 hg (by omega) (by omega) (by omega) (by omega)]
    rw [if_pos a] at h
    exact ⟨_, rfl, h⟩
  · rw [e_127 hg (by omega) (by omega) (by omega) (by omega)]
    rw [if_neg a, if_pos b] at h
    exact ⟨_, rfl, h⟩
  · rwa [if_neg a, if_neg b, if_pos c] at h
  · rwa [if_neg a, if_neg b, if_neg c] at h
theorem e_130 {M : jm_Mem} (hg : g_sd (M 67 1) (M 67 2)) (f : Int) (Q : jm_Q) : jm_cl 130 [jm_R 67, jm_I f] M Q ↔ Q (some (jm_I (jm_B (g_F (M 67 1) (M 67 2) (M 68) f)))) M := by
  refine jm_cl_e (fun Q h => sc_130 ?_) Q
  have hm := g_mul hg
  refine ⟨fun a => ⟨by omega, by omega, ?_⟩, fun a => ⟨fun b => ⟨by omega, by omega, ?_⟩, fun b => ⟨by omega, ?_⟩⟩⟩
  · rwa [jm_Bt (Or.inl a)] at h
  · rwa [jm_Bf (by omega)] at h
  · rw [jm_dv_e (by omega), jm_rm_e (by omega), e_123 hg]
    refine ⟨_, rfl, fun c => ⟨by omega, by omega, ?_⟩, fun c => ⟨by omega, fun d => ⟨by omega, by omega, ?_⟩, fun d => ⟨by omega, by omega, ?_, fun k => ⟨by omega, by omega, ?_⟩, fun k => ⟨by omega, by omega, ?_⟩⟩⟩⟩
    · rw [jm_B0] at c
      rwa [jm_Bf (by omega)] at h
    · rw [jm_Bn] at c
      rwa [jm_Bt (by omega)] at h
    · rw [jm_Bn] at c
      omega
    · rw [jm_Bn] at c
      rwa [jm_Bt (by omega)] at h
    · rwa [jm_Bf (by omega)] at h
