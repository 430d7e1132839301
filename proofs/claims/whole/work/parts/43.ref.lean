/-! THE REFERENCE'S QUESTIONS OF THE GRID -/
def r_X (w h : Int) (sl : Int → Int) (M : jm_Mem) : Prop := M 67 1 = w ∧ M 67 2 = h ∧ M 68 = sl
/-- nothing has changed but these cells, and these places of the reference -/
def jm_fx (cs : List Nat) (is : List Int) (M M' : jm_Mem) : Prop := (∀ c, c ∉ cs → c ≠ 67 → M' c = M c) ∧ (∀ i, i ∉ is → M' 67 i = M 67 i)
theorem jm_fx_rfl (cs : List Nat) (is : List Int) (M : jm_Mem) : jm_fx cs is M M := ⟨fun _ _ _ => rfl, fun _ _ => rfl⟩
theorem jm_fx_tr {cs : List Nat} {is : List Int} {M M1 M2 : jm_Mem} (h1 : jm_fx cs is M M1) (h2 : jm_fx cs is M1 M2) : jm_fx cs is M M2 := ⟨fun c a b => (h2.1 c a b).trans (h1.1 c a b), fun i a => (h2.2 i a).trans (h1.2 i a)⟩
theorem jm_fx_mo {cs ds : List Nat} {is js : List Int} {M M1 : jm_Mem} (h1 : jm_fx cs is M M1) (a : ∀ c ∈ cs, c ∈ ds) (b : ∀ i ∈ is, i ∈ js) : jm_fx ds js M M1 := ⟨fun c p q => h1.1 c (fun r => p (a c r)) q, fun i p => h1.2 i (fun r => p (b i r))⟩
theorem jm_fx_st {cs : List Nat} {is : List Int} {M : jm_Mem} {c : Nat} {i v : Int} (h : c ∈ cs) (h67 : c ≠ 67) : jm_fx cs is M (jm_st M c i v) := ⟨fun d hd _ => if_neg (fun q => hd (by rw [q]; exact h)), fun j _ => by rw [jm_st_e, if_neg (Ne.symm h67)]⟩
theorem jm_fx_sx {cs : List Nat} {is : List Int} {M : jm_Mem} {i v : Int} (h : i ∈ is) : jm_fx cs is M (jm_st M 67 i v) := ⟨fun d _ hd => if_neg hd, fun j hj => by rw [jm_st_e, if_pos rfl, jm_up_o (fun q => hj (by rw [q]; exact h))]⟩
theorem r_X_fx {w h : Int} {sl : Int → Int} {cs : List Nat} {is : List Int} {M M' : jm_Mem} (hf : jm_fx cs is M M') (a : 68 ∉ cs) (b : 1 ∉ is) (c : 2 ∉ is) (hX : r_X w h sl M) : r_X w h sl M' := by
  unfold r_X at hX ⊢
  rw [hf.1 68 a (by decide), hf.2 1 b, hf.2 2 c]
  exact hX
theorem g_at0 {w h : Int} {sl : Int → Int} {n : Int} : g_at w h sl n 0 = if 0 < n / w then 3 * (n - w) + 1 else -1 := rfl
theorem g_at1 {w h : Int} {sl : Int → Int} {n : Int} : g_at w h sl n 1 = if 0 < n / w ∧ n % w < w - 1 ∧ sl (n - w) = 2 then 3 * (n - w) + 2 else -1 := rfl
theorem g_at2 {w h : Int} {sl : Int → Int} {n : Int} : g_at w h sl n 2 = if n % w < w - 1 then 3 * n else -1 := rfl
theorem g_at3 {w h : Int} {sl : Int → Int} {n : Int} : g_at w h sl n 3 = if n % w < w - 1 ∧ n / w < h - 1 ∧ sl n = 1 then 3 * n + 2 else -1 := rfl
theorem g_at4 {w h : Int} {sl : Int → Int} {n : Int} : g_at w h sl n 4 = if n / w < h - 1 then 3 * n + 1 else -1 := rfl
theorem g_at5 {w h : Int} {sl : Int → Int} {n : Int} : g_at w h sl n 5 = if 0 < n % w ∧ n / w < h - 1 ∧ sl (n - 1) = 2 then 3 * (n - 1) + 2 else -1 := rfl
theorem g_at6 {w h : Int} {sl : Int → Int} {n : Int} : g_at w h sl n 6 = if 0 < n % w then 3 * (n - 1) else -1 := rfl
theorem g_at7 {w h : Int} {sl : Int → Int} {n : Int} : g_at w h sl n 7 = if 0 < n % w ∧ 0 < n / w ∧ sl (n - w - 1) = 1 then 3 * (n - w - 1) + 2 else -1 := rfl
section R1
variable {w h : Int} {sl : Int → Int} {M : jm_Mem}
theorem r_122 (hg : g_sd w h) (hX : r_X w h sl M) (n : Int) (Q : jm_Q) : jm_cl 122 [jm_R 67, jm_I n] M Q ↔ Q (some (jm_I (jm_B (g_nd w h n)))) M := by
  obtain ⟨rfl, rfl, rfl⟩ := hX
  exact e_122 hg n Q
theorem r_121 (hg : g_sd w h) (hX : r_X w h sl M) (Q : jm_Q) : jm_cl 121 [jm_R 67] M Q ↔ Q (some (jm_I (w * h))) M := by
  obtain ⟨rfl, rfl, rfl⟩ := hX
  exact e_121 hg Q
theorem r_123 (hg : g_sd w h) (hX : r_X w h sl M) (n : Int) (Q : jm_Q) : jm_cl 123 [jm_R 67, jm_I n] M Q ↔ Q (some (jm_I (jm_B (g_ce w h n)))) M := by
  obtain ⟨rfl, rfl, rfl⟩ := hX
  exact e_123 hg n Q
theorem r_124 (hg : g_sd w h) (hX : r_X w h sl M) (e : Int) (Q : jm_Q) : jm_cl 124 [jm_R 67, jm_I e] M Q ↔ Q (some (jm_I (jm_B (g_E w h sl e)))) M := by
  obtain ⟨rfl, rfl, rfl⟩ := hX
  exact e_124 hg e Q
theorem r_125 (hX : r_X w h sl M) {e : Int} (h0 : 0 ≤ e) (h1 : e < 108) (Q : jm_Q) : jm_cl 125 [jm_R 67, jm_I e] M Q ↔ Q (some (jm_I (g_fr sl e))) M := by
  obtain ⟨rfl, rfl, rfl⟩ := hX
  exact e_125 h0 h1 Q
theorem r_126 (hg : g_sd w h) (hX : r_X w h sl M) {e : Int} (h0 : 0 ≤ e) (h1 : e < 108) (Q : jm_Q) : jm_cl 126 [jm_R 67, jm_I e] M Q ↔ Q (some (jm_I (g_to w sl e))) M := by
  obtain ⟨rfl, rfl, rfl⟩ := hX
  exact e_126 hg h0 h1 Q
theorem r_128 (hg : g_sd w h) (hX : r_X w h sl M) {e : Int} (he : g_E w h sl e) (Q : jm_Q) : jm_cl 128 [jm_R 67, jm_I e] M Q ↔ Q (some (jm_I (g_lf w h sl e))) M := by
  obtain ⟨rfl, rfl, rfl⟩ := hX
  exact e_128 hg he.1 he.2.1 Q
theorem r_129 (hg : g_sd w h) (hX : r_X w h sl M) {e : Int} (he : g_E w h sl e) (Q : jm_Q) : jm_cl 129 [jm_R 67, jm_I e] M Q ↔ Q (some (jm_I (g_rt w h sl e))) M := by
  obtain ⟨rfl, rfl, rfl⟩ := hX
  exact e_129 hg he.1 he.2.1 Q
theorem r_130 (hg : g_sd w h) (hX : r_X w h sl M) (f : Int) (Q : jm_Q) : jm_cl 130 [jm_R 67, jm_I f] M Q ↔ Q (some (jm_I (jm_B (g_F w h sl f)))) M := by
  obtain ⟨rfl, rfl, rfl⟩ := hX
  exact e_130 hg f Q
theorem r_172 (hg : g_sd w h) (hX : r_X w h sl M) {n d : Int} (hn : g_nd w h n) (h0 : 0 ≤ d) (h8 : d < 8) (Q : jm_Q) : jm_cl 172 [jm_R 67, jm_I n, jm_I d] M Q ↔ Q (some (jm_I (g_at w h sl n d))) M := by
  refine jm_cl_e (fun Q hq => sc_172 ?_) Q
  obtain ⟨x1, x2, x3, x4⟩ := g_xy hg hn.1 hn.2
  have hnb := g_nb hg hn
  have hmul := Int.mul_ediv_add_emod n w
  have hy : 0 < n / w → w ≤ w * (n / w) := fun q => by
    have := Int.mul_le_mul_of_nonneg_left (show 1 ≤ n / w by omega) (show 0 ≤ w by have := hg.1; omega)
    omega
  obtain ⟨g1, g2, g3, g4⟩ := id hg
  have k0 : 0 ≤ w * (n / w) := Int.mul_nonneg (by omega) x3
  obtain ⟨e1, e2, e3⟩ := hX
  rw [e1, e2, e3, jm_rm_e hn.1, jm_dv_e hn.1]
  generalize w * (n / w) = wy at hmul hy k0
  refine ⟨by omega, by omega, fun a => ?_, fun a0 => ⟨fun a => ?_, fun a1 => ⟨fun a => ?_, fun a2 => ⟨fun a => ?_, fun a3 => ⟨fun a => ?_, fun a4 => ⟨fun a => ?_, fun a5 => ⟨fun a => ?_, fun a6 => ?_⟩⟩⟩⟩⟩⟩⟩
  · subst a
    rw [g_at0] at hq
    refine ⟨fun b => ⟨⟨by omega, by omega⟩, ⟨by omega, by omega⟩, ⟨by omega, by omega⟩, sg_172_26 (sg_172_178 ?_)⟩, fun b => sg_172_26 (sg_172_178 ?_)⟩
    · rwa [if_pos b] at hq
    · rwa [if_neg b] at hq
  · subst a
    rw [g_at1] at hq
    refine ⟨fun b => ⟨⟨by omega, by omega⟩, fun c => ⟨⟨by omega, by omega⟩, by omega, by omega, fun d => ⟨⟨by omega, by omega⟩, ⟨by omega, by omega⟩, ⟨by omega, by omega⟩, sg_172_178 ?_⟩, fun d => sg_172_54 (sg_172_178 ?_)⟩, fun c => sg_172_54 (sg_172_178 ?_)⟩, fun b => sg_172_54 (sg_172_178 ?_)⟩
    · rwa [if_pos ⟨b, c, d⟩] at hq
    · rwa [if_neg (fun q => d q.2.2)] at hq
    · rwa [if_neg (fun q => c q.2.1)] at hq
    · rwa [if_neg (fun q => b q.1)] at hq
  · subst a
    rw [g_at2] at hq
    refine ⟨⟨by omega, by omega⟩, fun b => ⟨⟨by omega, by omega⟩, sg_172_68 (sg_172_178 ?_)⟩, fun b => sg_172_68 (sg_172_178 ?_)⟩
    · rwa [if_pos b] at hq
    · rwa [if_neg b] at hq
  · subst a
    rw [g_at3] at hq
    refine ⟨⟨by omega, by omega⟩, fun b => ⟨⟨by omega, by omega⟩, fun c => ⟨by omega, by omega, fun d => ⟨⟨by omega, by omega⟩, ⟨by omega, by omega⟩, sg_172_178 ?_⟩, fun d => sg_172_94 (sg_172_178 ?_)⟩, fun c => sg_172_94 (sg_172_178 ?_)⟩, fun b => sg_172_94 (sg_172_178 ?_)⟩
    · rwa [if_pos ⟨b, c, d⟩] at hq
    · rwa [if_neg (fun q => d q.2.2)] at hq
    · rwa [if_neg (fun q => c q.2.1)] at hq
    · rwa [if_neg (fun q => b q.1)] at hq
  · subst a
    rw [g_at4] at hq
    refine ⟨⟨by omega, by omega⟩, fun b => ⟨⟨by omega, by omega⟩, ⟨by omega, by omega⟩, sg_172_110 (sg_172_178 ?_)⟩, fun b => sg_172_110 (sg_172_178 ?_)⟩
    · rwa [if_pos b] at hq
    · rwa [if_neg b] at hq
  · subst a
    rw [g_at5] at hq
    refine ⟨fun b => ⟨⟨by omega, by omega⟩, fun c => ⟨⟨by omega, by omega⟩, by omega, by omega, fun d => ⟨⟨by omega, by omega⟩, ⟨by omega, by omega⟩, ⟨by omega, by omega⟩, sg_172_178 ?_⟩, fun d => sg_172_136 (sg_172_178 ?_)⟩, fun c => sg_172_136 (sg_172_178 ?_)⟩, fun b => sg_172_136 (sg_172_178 ?_)⟩
    · rwa [if_pos ⟨b, c, d⟩] at hq
    · rwa [if_neg (fun q => d q.2.2)] at hq
    · rwa [if_neg (fun q => c q.2.1)] at hq
    · rwa [if_neg (fun q => b q.1)] at hq
  · subst a
    rw [g_at6] at hq
    refine ⟨fun b => ⟨⟨by omega, by omega⟩, ⟨by omega, by omega⟩, sg_172_148 (sg_172_178 ?_)⟩, fun b => sg_172_148 (sg_172_178 ?_)⟩
    · rwa [if_pos b] at hq
    · rwa [if_neg b] at hq
  · obtain rfl : d = 7 := by omega
    rw [g_at7] at hq
    refine ⟨fun b => ⟨fun c => ⟨⟨by omega, by omega⟩, ⟨by omega, by omega⟩, by omega, by omega, fun d => ⟨⟨by omega, by omega⟩, ⟨by omega, by omega⟩, ⟨by omega, by omega⟩, ⟨by omega, by omega⟩, sg_172_178 ?_⟩, fun d => sg_172_176 (sg_172_178 ?_)⟩, fun c => sg_172_176 (sg_172_178 ?_)⟩, fun b => sg_172_176 (sg_172_178 ?_)⟩
    · rwa [if_pos ⟨b, c, d⟩] at hq
    · rwa [if_neg (fun q => d q.2.2)] at hq
    · rwa [if_neg (fun q => c q.2.1)] at hq
    · rwa [if_neg (fun q => b q.1)] at hq
theorem r_173 (hg : g_sd w h) (hX : r_X w h sl M) {e : Int} (h0 : 0 ≤ e) (h1 : e < 108) (n : Int) (Q : jm_Q) : jm_cl 173 [jm_R 67, jm_I e, jm_I n] M Q ↔ Q (some (jm_I (if g_fr sl e = n then g_to w sl e else g_fr sl e))) M := by
  refine jm_cl_e (fun Q hq => sc_173 ?_) Q
  rw [r_125 hX h0 h1]
  refine ⟨_, rfl, fun a => ?_, fun a => ?_⟩
  · rw [r_126 hg hX h0 h1]
    rw [if_pos a] at hq
    exact ⟨_, rfl, hq⟩
  · rw [r_125 hX h0 h1]
    rw [if_neg a] at hq
    exact ⟨_, rfl, hq⟩
theorem r_152 (hg : g_sd w h) (hX : r_X w h sl M) (e f : Int) (Q : jm_Q) : jm_cl 152 [jm_R 67, jm_I e, jm_I f] M Q ↔ Q (some (jm_I (jm_B (g_E w h sl e ∧ (g_lf w h sl e = f ∨ g_rt w h sl e = f))))) M := by
  refine jm_cl_e (fun Q hq => sc_152 ?_) Q
  rw [r_124 hg hX]
  refine ⟨_, rfl, fun a => ⟨by omega, by omega, ?_⟩, fun a => ?_⟩
  · rw [jm_B0] at a
    rwa [jm_Bf (fun q => a q.1)] at hq
  · rw [jm_Bn] at a
    rw [r_128 hg hX a]
    refine ⟨_, rfl, fun b => ⟨by omega, by omega, ?_⟩, fun b => ?_⟩
    · rwa [jm_Bt ⟨a, Or.inl b⟩] at hq
    · rw [r_129 hg hX a]
      refine ⟨_, rfl, fun c => ⟨by omega, by omega, ?_⟩, fun c => ⟨by omega, by omega, ?_⟩⟩
      · rwa [jm_Bt ⟨a, Or.inr c⟩] at hq
      · rwa [jm_Bf (fun q => q.2.elim b c)] at hq
theorem r_131 (hg : g_sd w h) (hX : r_X w h sl M) (Q : jm_Q) : jm_cl 131 [jm_R 67] M Q ↔ Q (some (jm_I ((g_ls (fun f => g_F w h sl f) 73 0).length : Int))) M := by
  refine jm_cl_e (fun Q hq => sc_131 ?_) Q
  have L : ∀ f, f ≤ 73 → 0 ≤ f → ∀ a : Int, 0 ≤ a → a ≤ f → Q (some (jm_I (a + ((g_ls (fun f => g_F w h sl f) 73 f).length : Int)))) M → jm_run 131 (4, [some (jm_R 67), some (jm_I a), some (jm_I f)], [], M) Q := by
    refine jm_dn ?_
    intro f hf ih f0 a a0 a1 hq
    refine sg_131_4 ⟨fun b => ?_, fun b => ?_⟩
    · rw [r_130 hg hX]
      refine ⟨_, rfl, fun c => ⟨⟨by omega, by omega⟩, ⟨by omega, by omega⟩, ?_⟩, fun c => ⟨⟨by omega, by omega⟩, ⟨by omega, by omega⟩, ?_⟩⟩
      · rw [jm_B0] at c
        rw [g_ls_n b c] at hq
        rw [Int.add_zero]
        exact ih b (by omega) a a0 (by omega) hq
      · rw [jm_Bn] at c
        rw [g_ls_y b c, List.length_cons] at hq
        refine ih b (by omega) _ (by omega) (by omega) ?_
        rw [show a + 1 + ((g_ls (fun f => g_F w h sl f) 73 (f + 1)).length : Int) = a + (((g_ls (fun f => g_F w h sl f) 73 (f + 1)).length + 1 : Nat) : Int) by omega]
        exact hq
    · rw [g_ls_z (by omega)] at hq
      rw [show a + (([] : List Int).length : Int) = a from Int.add_zero a] at hq
      exact hq
  refine L 0 (by omega) (by omega) 0 (by omega) (by omega) ?_
  rw [Int.zero_add]
  exact hq
theorem r_132 (hg : g_sd w h) (hX : r_X w h sl M) (Q : jm_Q) : jm_cl 132 [jm_R 67] M Q ↔ Q (some (jm_I ((g_el w h sl).length : Int))) M := by
  refine jm_cl_e (fun Q hq => sc_132 ?_) Q
  have L : ∀ f, f ≤ 108 → 0 ≤ f → ∀ a : Int, 0 ≤ a → a ≤ f → Q (some (jm_I (a + ((g_ls (fun f => g_E w h sl f) 108 f).length : Int)))) M → jm_run 132 (4, [some (jm_R 67), some (jm_I a), some (jm_I f)], [], M) Q := by
    refine jm_dn ?_
    intro f hf ih f0 a a0 a1 hq
    refine sg_132_4 ⟨fun b => ?_, fun b => ?_⟩
    · rw [r_124 hg hX]
      refine ⟨_, rfl, fun c => ⟨⟨by omega, by omega⟩, ⟨by omega, by omega⟩, ?_⟩, fun c => ⟨⟨by omega, by omega⟩, ⟨by omega, by omega⟩, ?_⟩⟩
      · rw [jm_B0] at c
        rw [g_ls_n b c] at hq
        rw [Int.add_zero]
        exact ih b (by omega) a a0 (by omega) hq
      · rw [jm_Bn] at c
        rw [g_ls_y b c, List.length_cons] at hq
        refine ih b (by omega) _ (by omega) (by omega) ?_
        rw [show a + 1 + ((g_ls (fun f => g_E w h sl f) 108 (f + 1)).length : Int) = a + (((g_ls (fun f => g_E w h sl f) 108 (f + 1)).length + 1 : Nat) : Int) by omega]
        exact hq
    · rw [g_ls_z (by omega)] at hq
      rw [show a + (([] : List Int).length : Int) = a from Int.add_zero a] at hq
      exact hq
  refine L 0 (by omega) (by omega) 0 (by omega) (by omega) ?_
  rw [Int.zero_add]
  exact hq
theorem r_199 (hg : g_sd w h) (hX : r_X w h sl M) (n f : Int) (Q : jm_Q) : jm_cl 199 [jm_R 67, jm_I n, jm_I f] M Q ↔ Q (some (jm_I (jm_B (g_aF w h sl n f = true)))) M := by
  refine jm_cl_e (fun Q hq => sc_199 ?_) Q
  have L1 : ∀ e, e ≤ 108 → 0 ≤ e → Q (some (jm_I 1)) M → jm_run 199 (4, [some (jm_R 67), some (jm_I n), some (jm_I f), some (jm_I 1), some (jm_I e)], [], M) Q := by
    refine jm_dn ?_
    intro e he ih e0 hq
    exact sg_199_4 ⟨fun b => ⟨fun c => absurd c (by omega), fun c => ⟨⟨by omega, by omega⟩, ih b (by omega) hq⟩⟩, fun b => ⟨by omega, by omega, hq⟩⟩
  have L : ∀ e, e ≤ 108 → 0 ≤ e → Q (some (jm_I (jm_B ((g_ls (fun f => g_E w h sl f) 108 e).any (fun e => decide ((g_lf w h sl e = f ∨ g_rt w h sl e = f) ∧ (g_fr sl e = n ∨ g_to w sl e = n))) = true)))) M → jm_run 199 (4, [some (jm_R 67), some (jm_I n), some (jm_I f), some (jm_I 0), some (jm_I e)], [], M) Q := by
    refine jm_dn ?_
    intro e he ih e0 hq
    refine sg_199_4 ⟨fun b => ⟨fun _ => ?_, fun c => absurd rfl c⟩, fun b => ?_⟩
    · rw [r_152 hg hX]
      refine ⟨_, rfl, fun c => ⟨⟨by omega, by omega⟩, ih b (by omega) ?_⟩, fun c => ?_⟩
      · rw [jm_B0] at c
        by_cases hE : g_E w h sl e
        · rw [g_ls_y b hE, List.any_cons, decide_eq_false (fun q => c ⟨hE, q.1⟩), Bool.false_or] at hq
          exact hq
        · rw [g_ls_n b hE] at hq
          exact hq
      · rw [jm_Bn] at c
        rw [g_ls_y b c.1, List.any_cons] at hq
        rw [r_125 hX e0 b]
        refine ⟨_, rfl, fun d => ⟨⟨by omega, by omega⟩, L1 _ (by omega) (by omega) ?_⟩, fun d => ?_⟩
        · rwa [decide_eq_true ⟨c.2, Or.inl d⟩, Bool.true_or, jm_Bt rfl] at hq
        · rw [r_126 hg hX e0 b]
          refine ⟨_, rfl, fun k => ⟨⟨by omega, by omega⟩, L1 _ (by omega) (by omega) ?_⟩, fun k => ⟨⟨by omega, by omega⟩, ih b (by omega) ?_⟩⟩
          · rwa [decide_eq_true ⟨c.2, Or.inr k⟩, Bool.true_or, jm_Bt rfl] at hq
          · rwa [decide_eq_false (fun q => q.2.elim d k), Bool.false_or] at hq
    · rw [g_ls_z (by omega)] at hq
      exact ⟨by omega, by omega, hq⟩
  exact L 0 (by omega) (by omega) hq
end R1
