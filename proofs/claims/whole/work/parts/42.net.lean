/-! THE CLASS'S QUESTIONS OF THE GRID -/
theorem g_tb_fr {w h : Int} {sl : Int → Int} {cs : List Nat} {M M' : jm_Mem} (hf : jm_fr cs M M') (hd : ∀ c ∈ [1, 2, 3, 7, 8, 9, 10, 11, 12, 13, 14, 15], c ∉ cs) (hT : g_tb w h sl M) : g_tb w h sl M' := by
  unfold g_tb g_pl at hT ⊢
  rw [hf 1 (hd 1 (by decide)), hf 2 (hd 2 (by decide)), hf 3 (hd 3 (by decide)), hf 7 (hd 7 (by decide)), hf 8 (hd 8 (by decide)), hf 9 (hd 9 (by decide)), hf 10 (hd 10 (by decide)), hf 11 (hd 11 (by decide)), hf 12 (hd 12 (by decide)), hf 13 (hd 13 (by decide)), hf 14 (hd 14 (by decide)), hf 15 (hd 15 (by decide))]
  exact hT
section C1
variable {w h : Int} {sl : Int → Int} {M : jm_Mem}
theorem t_w (hT : g_tb w h sl M) : M 2 4 = w := hT.1
theorem t_h (hT : g_tb w h sl M) : M 2 5 = h := hT.2.1
theorem t_sl (hT : g_tb w h sl M) : M 3 = sl := hT.2.2.1
theorem t_nc (hT : g_tb w h sl M) : M 1 12 = w * h := hT.2.2.2.1
theorem t_pl (hT : g_tb w h sl M) : g_pl w h sl (g_el w h sl) M := hT.2.2.2.2.1
theorem t_ec (hT : g_tb w h sl M) : M 1 13 = ((g_el w h sl).length : Int) := (t_pl hT).1
theorem t_E (hg : g_sd w h) (hT : g_tb w h sl M) {e : Int} (he : g_E w h sl e) : M 8 e = g_fr sl e ∧ M 9 e = g_to w sl e ∧ M 10 e = g_lf w h sl e ∧ M 11 e = g_rt w h sl e := by
  obtain ⟨-, -, p3, p4, -, -⟩ := t_pl hT
  have hb := g_Eb hg he
  have hm := (g_el_mem hg).2 he
  have := p3 e hb.1 hb.2.1
  rw [if_pos hm] at this
  exact ⟨this, p4 e hm⟩
theorem t_nE (hg : g_sd w h) (hT : g_tb w h sl M) {e : Int} (h0 : 0 ≤ e) (h1 : e < 108) : M 8 e = -1 ↔ ¬ g_E w h sl e := by
  obtain ⟨-, -, p3, -, -, -⟩ := t_pl hT
  rw [p3 e h0 h1]
  constructor
  · intro q r
    rw [if_pos ((g_el_mem hg).2 r)] at q
    have := (g_ends hg r).1.1
    omega
  · intro q
    rw [if_neg (fun r => q ((g_el_mem hg).1 r))]
theorem t_at (hg : g_ok w h sl) (hT : g_tb w h sl M) {n d : Int} (hn : g_nd w h n) (h0 : 0 ≤ d) (h8 : d < 8) : M 13 (n * 8 + d) = g_at w h sl n d := by
  obtain ⟨-, -, -, -, -, p6⟩ := t_pl hT
  rw [p6 n d hn h0 h8]
  split
  · rfl
  · rename_i hc
    rcases g_at_i hg hn h0 h8 with r | ⟨r, -⟩
    · exact r.symm
    · exact absurd ((g_el_mem hg.1).2 r) hc
theorem tb_nil (hT : g_tb w h sl M) {pre : List Int} (hp : pre ++ [] = g_el w h sl) : ¬ (pre.length : Int) < M 1 13 := by
  rw [t_ec hT, ← hp, List.append_nil]
  omega
theorem tb_cons (hg : g_sd w h) (hT : g_tb w h sl M) {pre rest : List Int} {e : Int} (hp : pre ++ e :: rest = g_el w h sl) : (pre.length : Int) < M 1 13 ∧ M 7 (pre.length : Int) = e ∧ g_E w h sl e ∧ 0 ≤ (pre.length : Int) ∧ (pre.length : Int) < 108 ∧ (pre ++ [e]) ++ rest = g_el w h sl ∧ ((pre ++ [e]).length : Int) = (pre.length : Int) + 1 := by
  have hln : ((g_el w h sl).length : Int) ≤ 108 - 0 := g_ls_len 0 (by omega)
  have h1 : ((g_el w h sl).length : Int) = (pre.length : Int) + ((rest.length : Int) + 1) := by
    rw [← hp, List.length_append, List.length_cons]
    omega
  refine ⟨?_, ?_, ?_, by omega, by omega, ?_, ?_⟩
  · rw [t_ec hT]
    omega
  · obtain ⟨-, p2, -⟩ := t_pl hT
    refine p2 pre.length e ?_
    rw [← hp, List.getElem?_append_right (by omega), Nat.sub_self]
    rfl
  · rw [← g_el_mem hg, ← hp]
    simp
  · rw [List.append_assoc]
    exact hp
  · rw [List.length_append, List.length_singleton]
    omega
/-- faces are those at edges -/
theorem g_F_iff (hg : g_ok w h sl) {f : Int} : g_F w h sl f ↔ ∃ e, g_E w h sl e ∧ (g_lf w h sl e = f ∨ g_rt w h sl e = f) := by
  have hm := g_mul hg.1
  obtain ⟨hw, hh⟩ := g_cases hg.1
  obtain ⟨g1, g2, g3, g4⟩ := id hg.1
  constructor
  · rintro (rfl | ⟨f0, fc, fe⟩)
    · refine ⟨3 * 0, g_E0.2 ⟨⟨by omega, by omega⟩, by rw [Int.zero_emod]; omega⟩, Or.inl ?_⟩
      rw [g_lf0]
      refine g_fa_out ?_
      rw [Int.zero_ediv]
      omega
    · by_cases h2 : f % 2 = 0
      · refine ⟨3 * (f / 2), g_E0.2 ⟨⟨fc.1, fc.2.1⟩, fc.2.2.1⟩, Or.inr ?_⟩
        rw [g_rt0]
        have hx := g_xy hg.1 fc.1 fc.2.1
        have hn : f / 2 / w * w + f / 2 % w = f / 2 := by
          have := Int.mul_ediv_add_emod (f / 2) w
          rw [Int.mul_comm] at this
          exact this
        unfold g_fa
        rw [if_pos ⟨by omega, by omega, fc.2.2.1, fc.2.2.2⟩, if_neg (by omega), hn]
        omega
      · have hs : 0 < sl (f / 2) := by omega
        refine ⟨3 * (f / 2) + 2, g_E2.2 ⟨fc, hs⟩, ?_⟩
        rw [g_lf2, g_rt2]
        split <;> omega
  · rintro ⟨e, he, rfl | rfl⟩
    · exact (g_lfF hg he).1
    · exact (g_rtF hg he).1
theorem g_Fb (hg : g_ok w h sl) {f : Int} (hf : g_F w h sl f) : 0 ≤ f ∧ f ≤ 72 := by
  obtain ⟨e, he, rfl | rfl⟩ := (g_F_iff hg).1 hf
  · exact (g_lfF hg he).2
  · exact (g_rtF hg he).2
theorem t_sides (hg : g_ok w h sl) (hT : g_tb w h sl M) {f : Int} (h0 : 0 ≤ f) (h1 : f < 73) : 0 < M 12 f ↔ g_F w h sl f := by
  obtain ⟨-, -, -, -, p5, -⟩ := t_pl hT
  rw [p5 f h0 h1, g_F_iff hg]
  constructor
  · intro q
    have : 0 < ((g_el w h sl).filter (fun e => decide (g_lf w h sl e = f ∨ g_rt w h sl e = f))).length := by omega
    obtain ⟨e, he⟩ := List.exists_mem_of_length_pos this
    rw [List.mem_filter, g_el_mem hg.1] at he
    exact ⟨e, he.1, of_decide_eq_true he.2⟩
  · rintro ⟨e, he, hf⟩
    have hm : e ∈ (g_el w h sl).filter (fun e => decide (g_lf w h sl e = f ∨ g_rt w h sl e = f)) := by
      rw [List.mem_filter, g_el_mem hg.1]
      exact ⟨he, decide_eq_true hf⟩
    have := List.length_pos_of_mem hm
    omega
theorem e_19 (hT : g_tb w h sl M) (n : Int) (Q : jm_Q) : jm_cl 19 [jm_R 1, jm_I n] M Q ↔ Q (some (jm_I (jm_B (g_nd w h n)))) M := by
  refine jm_cl_e (fun Q h => sc_19 ?_) Q
  rw [t_nc hT]
  refine ⟨fun a => ⟨by omega, by omega, ?_⟩, fun a => ⟨fun b => ⟨by omega, by omega, ?_⟩, fun b => ⟨by omega, by omega, ?_⟩⟩⟩
  · rwa [jm_Bf (by unfold g_nd; omega)] at h
  · rwa [jm_Bt (by unfold g_nd; omega)] at h
  · rwa [jm_Bf (by unfold g_nd; omega)] at h
theorem e_20 (hg : g_sd w h) (hT : g_tb w h sl M) (e : Int) (Q : jm_Q) : jm_cl 20 [jm_R 1, jm_I e] M Q ↔ Q (some (jm_I (jm_B (g_E w h sl e)))) M := by
  refine jm_cl_e (fun Q h => sc_20 ?_) Q
  refine ⟨fun a => ⟨by omega, by omega, ?_⟩, fun a => ⟨fun b => ⟨by omega, by omega, fun c => ⟨by omega, by omega, ?_⟩, fun c => ⟨by omega, by omega, ?_⟩⟩, fun b => ⟨by omega, by omega, ?_⟩⟩⟩
  · rwa [jm_Bf (fun q => by have := g_Eb hg q; omega)] at h
  · rwa [jm_Bf ((t_nE hg hT (by omega) b).1 c)] at h
  · rwa [jm_Bt (Decidable.byContradiction (fun q => c ((t_nE hg hT (by omega) b).2 q)))] at h
  · rwa [jm_Bf (fun q => by have := g_Eb hg q; omega)] at h
theorem e_21 (hg : g_ok w h sl) (hT : g_tb w h sl M) (f : Int) (Q : jm_Q) : jm_cl 21 [jm_R 1, jm_I f] M Q ↔ Q (some (jm_I (jm_B (g_F w h sl f)))) M := by
  refine jm_cl_e (fun Q h => sc_21 ?_) Q
  refine ⟨fun a => ⟨by omega, by omega, ?_⟩, fun a => ⟨fun b => ⟨by omega, by omega, fun c => ⟨by omega, by omega, ?_⟩, fun c => ⟨by omega, by omega, ?_⟩⟩, fun b => ⟨by omega, by omega, ?_⟩⟩⟩
  · rwa [jm_Bf (fun q => by have := g_Fb hg q; omega)] at h
  · rwa [jm_Bt ((t_sides hg hT (by omega) b).1 c)] at h
  · rwa [jm_Bf (fun q => c ((t_sides hg hT (by omega) b).2 q))] at h
  · rwa [jm_Bf (fun q => by have := g_Fb hg q; omega)] at h
theorem g_F2 {n : Int} (h0 : n < 36) : g_F w h sl (2 * n) ↔ g_ce w h n := by
  have : 2 * n / 2 = n := by omega
  unfold g_F
  rw [this]
  unfold g_ce
  omega
theorem e_22 (hg : g_ok w h sl) (hT : g_tb w h sl M) (n : Int) (Q : jm_Q) : jm_cl 22 [jm_R 1, jm_I n] M Q ↔ Q (some (jm_I (jm_B (g_ce w h n)))) M := by
  refine jm_cl_e (fun Q h => sc_22 ?_) Q
  have hm := g_mul hg.1
  refine ⟨fun a => ⟨by omega, by omega, ?_⟩, fun a => ⟨fun b => ⟨⟨by omega, by omega⟩, by omega, by omega, fun c => ⟨by omega, by omega, ?_⟩, fun c => ⟨by omega, by omega, ?_⟩⟩, fun b => ⟨by omega, by omega, ?_⟩⟩⟩
  · rwa [jm_Bf (by unfold g_ce; omega)] at h
  · rw [t_sides hg hT (by omega) (by omega), g_F2 b] at c
    rwa [jm_Bt c] at h
  · rw [t_sides hg hT (by omega) (by omega), g_F2 b] at c
    rwa [jm_Bf c] at h
  · rwa [jm_Bf (by unfold g_ce; omega)] at h
theorem e_24 (hg : g_sd w h) (hT : g_tb w h sl M) {e : Int} (he : g_E w h sl e) (n : Int) (Q : jm_Q) : jm_cl 24 [jm_R 1, jm_I e, jm_I n] M Q ↔ Q (some (jm_I (if g_fr sl e = n then g_to w sl e else g_fr sl e))) M := by
  refine jm_cl_e (fun Q h => sc_24 ?_) Q
  obtain ⟨t1, t2, t3, t4⟩ := t_E hg hT he
  obtain ⟨b1, b2, -, -⟩ := g_Eb hg he
  rw [t1, t2]
  refine ⟨b1, b2, fun a => ⟨b1, b2, ?_⟩, fun a => ⟨b1, b2, ?_⟩⟩
  · rwa [if_pos a] at h
  · rwa [if_neg a] at h
theorem e_25 (hg : g_sd w h) (hT : g_tb w h sl M) {e : Int} (he : g_E w h sl e) (f : Int) (Q : jm_Q) : jm_cl 25 [jm_R 1, jm_I e, jm_I f] M Q ↔ Q (some (jm_I (if g_lf w h sl e = f then g_rt w h sl e else g_lf w h sl e))) M := by
  refine jm_cl_e (fun Q h => sc_25 ?_) Q
  obtain ⟨t1, t2, t3, t4⟩ := t_E hg hT he
  obtain ⟨b1, b2, -, -⟩ := g_Eb hg he
  rw [t3, t4]
  refine ⟨b1, b2, fun a => ⟨b1, b2, ?_⟩, fun a => ⟨b1, b2, ?_⟩⟩
  · rwa [if_pos a] at h
  · rwa [if_neg a] at h
theorem e_26 (hg : g_sd w h) (hT : g_tb w h sl M) {e : Int} (he : g_E w h sl e) (f : Int) (Q : jm_Q) : jm_cl 26 [jm_R 1, jm_I e, jm_I f] M Q ↔ Q (some (jm_I (if g_lf w h sl e = f then M 4 e else M 5 e))) M := by
  refine jm_cl_e (fun Q h => sc_26 ?_) Q
  obtain ⟨t1, t2, t3, t4⟩ := t_E hg hT he
  obtain ⟨b1, b2, -, -⟩ := g_Eb hg he
  rw [t3]
  refine ⟨b1, b2, fun a => ⟨b1, b2, ?_⟩, fun a => ⟨b1, b2, ?_⟩⟩
  · rwa [if_pos a] at h
  · rwa [if_neg a] at h
theorem e_27 (hg : g_sd w h) (hT : g_tb w h sl M) {e : Int} (he : g_E w h sl e) (f : Int) (Q : jm_Q) : jm_cl 27 [jm_R 1, jm_I e, jm_I f] M Q ↔ Q (some (jm_I (jm_B (g_lf w h sl e = f ∨ g_rt w h sl e = f)))) M := by
  refine jm_cl_e (fun Q h => sc_27 ?_) Q
  obtain ⟨t1, t2, t3, t4⟩ := t_E hg hT he
  obtain ⟨b1, b2, -, -⟩ := g_Eb hg he
  rw [t3, t4]
  refine ⟨b1, b2, fun a => ⟨by omega, by omega, ?_⟩, fun a => ⟨b1, b2, fun b => ⟨by omega, by omega, ?_⟩, fun b => ⟨by omega, by omega, ?_⟩⟩⟩
  · rwa [jm_Bt (Or.inl a)] at h
  · rwa [jm_Bt (Or.inr b)] at h
  · rwa [jm_Bf (fun q => q.elim a b)] at h
/-- a node at a face -/
def g_aF (w h : Int) (sl : Int → Int) (n f : Int) : Bool := (g_el w h sl).any (fun e => decide ((g_lf w h sl e = f ∨ g_rt w h sl e = f) ∧ (g_fr sl e = n ∨ g_to w sl e = n)))
theorem e_28 (hg : g_sd w h) (hT : g_tb w h sl M) (n f : Int) (Q : jm_Q) : jm_cl 28 [jm_R 1, jm_I n, jm_I f] M Q ↔ Q (some (jm_I (jm_B (g_aF w h sl n f = true)))) M := by
  refine jm_cl_e (fun Q hQ => sc_28 ?_) Q
  have L : ∀ (rest pre : List Int), pre ++ rest = g_el w h sl → ∀ o4, Q (some (jm_I (jm_B (rest.any (fun e => decide ((g_lf w h sl e = f ∨ g_rt w h sl e = f) ∧ (g_fr sl e = n ∨ g_to w sl e = n))) = true)))) M → jm_run 28 (2, [some (jm_R 1), some (jm_I n), some (jm_I f), some (jm_I (pre.length : Int)), o4], [], M) Q := by
    intro rest
    induction rest with
    | nil =>
      intro pre hp o4 hq
      exact sg_28_2 ⟨fun a => absurd a (tb_nil hT hp), fun a => ⟨by omega, by omega, hq⟩⟩
    | cons e rest ih =>
      intro pre hp o4 hq
      obtain ⟨t1, t2, t3, t4, t5, t6, t7⟩ := tb_cons hg hT hp
      obtain ⟨b1, b2, -, -⟩ := g_Eb hg t3
      obtain ⟨d1, d2, d3, d4⟩ := t_E hg hT t3
      refine sg_28_2 ⟨fun a => ⟨t4, t5, ?_⟩, fun a => absurd t1 a⟩
      rw [t2, e_27 hg hT t3, d1, d2]
      rw [List.any_cons] at hq
      have ih := ih (pre ++ [e]) t6 (some (jm_I e))
      rw [t7] at ih
      refine ⟨_, rfl, fun b => ⟨⟨by omega, by omega⟩, ?_⟩, fun b => ⟨b1, b2, fun c => ⟨by omega, by omega, ?_⟩, fun c => ⟨b1, b2, fun d => ⟨by omega, by omega, ?_⟩, fun d => ⟨⟨by omega, by omega⟩, ?_⟩⟩⟩⟩
      · rw [jm_B0] at b
        rw [decide_eq_false (fun q => b q.1), Bool.false_or] at hq
        exact ih hq
      · rw [jm_Bn] at b
        rw [decide_eq_true ⟨b, Or.inl c⟩, Bool.true_or, jm_Bt rfl] at hq
        exact hq
      · rw [jm_Bn] at b
        rw [decide_eq_true ⟨b, Or.inr d⟩, Bool.true_or, jm_Bt rfl] at hq
        exact hq
      · rw [decide_eq_false (fun q => q.2.elim c d), Bool.false_or] at hq
        exact ih hq
  exact L _ [] rfl _ hQ
end C1
