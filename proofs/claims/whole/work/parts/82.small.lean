/-! SMALL COUNTS AND SUMS -/
theorem g_ls_0 {P : Int → Prop} [DecidablePred P] {N : Int} : ∀ e, e ≤ N → (∀ v, e ≤ v → v < N → ¬ P v) → g_ls P N e = [] := by
  refine jm_dn ?_
  intro e he ih h
  by_cases q : e < N
  · rw [g_ls_n q (h e (by omega) q)]
    exact ih q (fun v a b => h v (by omega) b)
  · exact g_ls_z (by omega)
theorem e_29 {w h : Int} {sl fo ba : Int → Int} {M : jm_Mem} (hg : g_sd w h) (hT : g_tb w h sl M) (hfo : M 4 = fo) (hba : M 5 = ba) (hbo : g_bo fo ba) (Q : jm_Q) : jm_cl 29 [jm_R 1] M Q ↔ Q (some (jm_I (g_sm (fun e => fo e + ba e) (g_el w h sl)))) M := by
  refine jm_cl_e (fun Q hQ => sc_29 ?_) Q
  have L : ∀ (rest pre : List Int), pre ++ rest = g_el w h sl → ∀ n, 0 ≤ n → n ≤ 200 * (pre.length : Int) → g_sm (fun e => fo e + ba e) (g_el w h sl) = n + g_sm (fun e => fo e + ba e) rest → jm_run 29 (4, [some (jm_R 1), some (jm_I n), some (jm_I (pre.length : Int))], [], M) Q := by
    intro rest
    induction rest with
    | nil =>
      intro pre hp n n0 n1 hn
      refine sg_29_4 ⟨fun a => absurd a (tb_nil hT hp), fun _ => ?_⟩
      have hn : g_sm (fun e => fo e + ba e) (g_el w h sl) = n + 0 := hn
      rw [hn, Int.add_zero] at hQ
      exact hQ
    | cons e rest ih =>
      intro pre hp n n0 n1 hn
      obtain ⟨t1', t2, t3, t4, t5, t6, t7⟩ := tb_cons hg hT hp
      obtain ⟨b1, b2, -, -⟩ := g_Eb hg t3
      have ih := ih (pre ++ [e]) t6
      rw [t7] at ih
      have hn : g_sm (fun e => fo e + ba e) (g_el w h sl) = n + ((fo e + ba e) + g_sm (fun e => fo e + ba e) rest) := hn
      have := hbo e
      refine sg_29_4 ⟨fun _ => ?_, fun q => absurd t1' q⟩
      rw [t2, hfo, hba]
      exact ⟨t4, t5, b1, b2, t4, t5, b1, b2, ⟨by omega, by omega⟩, ⟨by omega, by omega⟩, ⟨by omega, by omega⟩, ih _ (by omega) (by omega) (by omega)⟩
  exact L (g_el w h sl) [] rfl 0 (by omega) (by show (0 : Int) ≤ 200 * ((0 : Nat) : Int); omega) (Int.zero_add _).symm
theorem r_211 {w h : Int} {sl fo ba : Int → Int} {M : jm_Mem} (hg : g_sd w h) (hX : r_X w h sl M) (hfo : M 69 = fo) (hba : M 70 = ba) (hbo : g_bo fo ba) (Q : jm_Q) : jm_cl 211 [jm_R 67] M Q ↔ Q (some (jm_I (g_sm (fun e => fo e + ba e) (g_el w h sl)))) M := by
  refine jm_cl_e (fun Q hQ => sc_211 ?_) Q
  have L : ∀ e, e ≤ 108 → 0 ≤ e → ∀ n, 0 ≤ n → n ≤ 200 * e → g_sm (fun e => fo e + ba e) (g_el w h sl) = n + g_sm (fun e => fo e + ba e) (g_ls (fun e => g_E w h sl e) 108 e) → jm_run 211 (4, [some (jm_R 67), some (jm_I n), some (jm_I e)], [], M) Q := by
    refine jm_dn ?_
    intro e he ih e0 n n0 n1 hn
    by_cases q : e < 108
    · have ih := ih q (by omega)
      have := hbo e
      refine sg_211_4 ⟨fun _ => ?_, fun z => absurd q z⟩
      rw [r_124 hg hX, hfo, hba]
      refine ⟨_, rfl, fun p => ⟨⟨by omega, by omega⟩, ⟨by omega, by omega⟩, ih _ (by omega) (by omega) ?_⟩, fun p => ⟨e0, q, e0, q, ⟨by omega, by omega⟩, ⟨by omega, by omega⟩, ⟨by omega, by omega⟩, ih _ (by omega) (by omega) ?_⟩⟩
      · rw [g_ls_n (P := fun e => g_E w h sl e) q (jm_B0.1 p)] at hn
        omega
      · rw [g_ls_y (P := fun e => g_E w h sl e) q (jm_Bn.1 p)] at hn
        have hn : g_sm (fun e => fo e + ba e) (g_el w h sl) = n + ((fo e + ba e) + g_sm (fun e => fo e + ba e) (g_ls (fun e => g_E w h sl e) 108 (e + 1))) := hn
        omega
    · rw [g_ls_z (by omega)] at hn
      have hn : g_sm (fun e => fo e + ba e) (g_el w h sl) = n + 0 := hn
      rw [hn, Int.add_zero] at hQ
      exact sg_211_4 ⟨fun z => absurd z q, fun _ => hQ⟩
  exact L 0 (by omega) (by omega) 0 (by omega) (by omega) (Int.zero_add _).symm
/-- what a node gives (1) or takes (-1) -/
abbrev s_su (sg : Int) (su : Int → Int) (n : Int) : Int := if 0 < sg * su n then sg * su n else 0
theorem s_su_b {sg : Int} {su : Int → Int} (hsg : sg = 1 ∨ sg = -1) {n : Int} (hb : -99 ≤ su n ∧ su n ≤ 99) : -99 ≤ sg * su n ∧ sg * su n ≤ 99 ∧ 0 ≤ s_su sg su n ∧ s_su sg su n ≤ 99 := by
  have h1 : -99 ≤ sg * su n ∧ sg * su n ≤ 99 := by
    rcases hsg with q | q
    · rw [q]; omega
    · rw [q]; omega
  refine ⟨h1.1, h1.2, ?_⟩
  show 0 ≤ (if 0 < sg * su n then sg * su n else 0) ∧ (if 0 < sg * su n then sg * su n else 0) ≤ 99
  by_cases q : 0 < sg * su n
  · rw [if_pos q]; omega
  · rw [if_neg q]; omega
abbrev s_al (sg : Int) (su : Int → Int) (N k : Int) : Int := g_sm (s_su sg su) (g_ls (fun _ => True) N k)
theorem s_al_s {sg : Int} {su : Int → Int} {N k : Int} (h : k < N) : s_al sg su N k = s_su sg su k + s_al sg su N (k + 1) := by
  show g_sm (s_su sg su) (g_ls (fun _ => True) N k) = _
  rw [g_ls_y h trivial]
  rfl
theorem s_al_z {sg : Int} {su : Int → Int} {N k : Int} (h : N ≤ k) : s_al sg su N k = 0 := by
  show g_sm (s_su sg su) (g_ls (fun _ => True) N k) = _
  rw [g_ls_z h]
  rfl
theorem e_30 {w h : Int} {sl su : Int → Int} {sg : Int} {M : jm_Mem} (hg : g_sd w h) (hT : g_tb w h sl M) (hsu : M 6 = su) (hsb : ∀ n, -99 ≤ su n ∧ su n ≤ 99) (hsg : sg = 1 ∨ sg = -1) (Q : jm_Q) : jm_cl 30 [jm_R 1, jm_I sg] M Q ↔ Q (some (jm_I (s_al sg su (w * h) 0))) M := by
  refine jm_cl_e (fun Q hQ => sc_30 ?_) Q
  have hm := g_mul hg
  have L : ∀ k, k ≤ w * h → 0 ≤ k → ∀ n, 0 ≤ n → n ≤ 99 * k → s_al sg su (w * h) 0 = n + s_al sg su (w * h) k → jm_run 30 (4, [some (jm_R 1), some (jm_I sg), some (jm_I n), some (jm_I k)], [], M) Q := by
    refine jm_dn ?_
    intro k hk ih k0 n n0 n1 hn
    have hb := s_su_b hsg (hsb k)
    refine sg_30_4 ⟨fun q => ?_, fun q => ?_⟩
    · rw [t_nc hT] at q
      rw [s_al_s q] at hn
      have hu : (if 0 < sg * su k then sg * su k else 0) = s_su sg su k := rfl
      rw [hsu, hu]
      exact ⟨k0, by omega, ⟨by omega, by omega⟩, ⟨by omega, by omega⟩, ⟨by omega, by omega⟩, ih q (by omega) _ (by omega) (by omega) (by omega)⟩
    · rw [t_nc hT] at q
      rw [s_al_z (k := k) (by omega), Int.add_zero] at hn
      rwa [hn] at hQ
  exact L 0 (by omega) (by omega) 0 (by omega) (by omega) (Int.zero_add _).symm
theorem r_213 {w h : Int} {sl su : Int → Int} {sg : Int} {M : jm_Mem} (hg : g_sd w h) (hX : r_X w h sl M) (hsu : M 71 = su) (hsb : ∀ n, -99 ≤ su n ∧ su n ≤ 99) (hsg : sg = 1 ∨ sg = -1) (Q : jm_Q) : jm_cl 213 [jm_R 67, jm_I sg] M Q ↔ Q (some (jm_I (s_al sg su (w * h) 0))) M := by
  refine jm_cl_e (fun Q hQ => sc_213 ?_) Q
  have hm := g_mul hg
  have L : ∀ k, k ≤ w * h → 0 ≤ k → ∀ n, 0 ≤ n → n ≤ 99 * k → s_al sg su (w * h) 0 = n + s_al sg su (w * h) k → jm_run 213 (4, [some (jm_R 67), some (jm_I sg), some (jm_I n), some (jm_I k)], [], M) Q := by
    refine jm_dn ?_
    intro k hk ih k0 n n0 n1 hn
    have hb := s_su_b hsg (hsb k)
    refine sg_213_4 ?_
    rw [r_121 hg hX]
    refine ⟨_, rfl, fun q => ?_, fun q => ?_⟩
    · rw [s_al_s q] at hn
      have hn : s_al sg su (w * h) 0 = n + ((if 0 < sg * su k then sg * su k else 0) + s_al sg su (w * h) (k + 1)) := hn
      rw [hsu, Int.mul_comm (su k) sg]
      refine ⟨k0, by omega, ⟨by omega, by omega⟩, fun p => ⟨k0, by omega, ⟨by omega, by omega⟩, ⟨by omega, by omega⟩, ⟨by omega, by omega⟩, ih q (by omega) _ (by omega) (by omega) ?_⟩, fun p => ⟨⟨by omega, by omega⟩, ⟨by omega, by omega⟩, ih q (by omega) _ (by omega) (by omega) ?_⟩⟩
      · rw [if_pos p] at hn; omega
      · rw [if_neg p] at hn; omega
    · rw [s_al_z (k := k) (by omega), Int.add_zero] at hn
      rwa [hn] at hQ
  exact L 0 (by omega) (by omega) 0 (by omega) (by omega) (Int.zero_add _).symm
theorem g_scount {w h : Int} {sl : Int → Int} (hg : g_ok w h sl) : ∀ n, n ≤ 36 → 0 ≤ n → ((g_ls (fun e => g_E w h sl e) 108 (3 * n)).filter (fun x => decide (x % 3 = 2))).length = (g_ls (fun k => 0 < sl k) 36 n).length := by
  refine jm_dn ?_
  intro n hn ih n0
  by_cases hlt : n < 36
  · have ih := ih hlt (by omega)
    have e0 : (g_ls (fun e => g_E w h sl e) 108 (3 * n)).filter (fun x => decide (x % 3 = 2)) = (g_ls (fun e => g_E w h sl e) 108 (3 * n + 1)).filter (fun x => decide (x % 3 = 2)) := by
      rw [g_ls_s (by omega)]
      split
      · rw [List.filter_cons_of_neg]
        have : ¬ ((3 * n) % 3 = 2) := by omega
        simpa using this
      · rfl
    have e1 : (g_ls (fun e => g_E w h sl e) 108 (3 * n + 1)).filter (fun x => decide (x % 3 = 2)) = (g_ls (fun e => g_E w h sl e) 108 (3 * n + 2)).filter (fun x => decide (x % 3 = 2)) := by
      rw [g_ls_s (by omega), show 3 * n + 1 + 1 = 3 * n + 2 by omega]
      split
      · rw [List.filter_cons_of_neg]
        have : ¬ ((3 * n + 1) % 3 = 2) := by omega
        simpa using this
      · rfl
    have hce : g_E w h sl (3 * n + 2) ↔ 0 < sl n := by
      rw [g_E2]
      exact ⟨fun q => q.2, fun q => ⟨(hg.2 n).2.2 (by omega), q⟩⟩
    rw [e0, e1, g_ls_s (by omega), show 3 * n + 2 + 1 = 3 * (n + 1) by omega]
    by_cases hE : 0 < sl n
    · rw [if_pos (hce.2 hE), List.filter_cons_of_pos (by simp), List.length_cons, ih, g_ls_y (P := fun k => 0 < sl k) hlt hE, List.length_cons]
    · rw [if_neg (fun q => hE (hce.1 q)), ih, g_ls_n (P := fun k => 0 < sl k) hlt hE]
  · rw [g_ls_z (P := fun k => 0 < sl k) (by omega), g_ls_z (P := fun e => g_E w h sl e) (by omega)]
    rfl
theorem t_sc {w h : Int} {sl : Int → Int} {M : jm_Mem} (hg : g_ok w h sl) (hT : g_tb w h sl M) : M 1 15 = ((g_ls (fun k => 0 < sl k) 36 0).length : Int) := by
  have h3 := g_scount hg 0 (by omega) (by omega)
  rw [show (3 : Int) * 0 = 0 by omega] at h3
  rw [← h3]
  exact hT.2.2.2.2.2.1
theorem r_212 {w h : Int} {sl : Int → Int} {M : jm_Mem} (hg : g_ok w h sl) (hX : r_X w h sl M) (Q : jm_Q) : jm_cl 212 [jm_R 67] M Q ↔ Q (some (jm_I ((g_ls (fun k => 0 < sl k) 36 0).length : Int))) M := by
  refine jm_cl_e (fun Q hQ => sc_212 ?_) Q
  have hm := g_mul hg.1
  have L : ∀ k, k ≤ w * h → 0 ≤ k → ∀ n, 0 ≤ n → n ≤ k → ((g_ls (fun k => 0 < sl k) 36 0).length : Int) = n + ((g_ls (fun k => 0 < sl k) 36 k).length : Int) → jm_run 212 (4, [some (jm_R 67), some (jm_I n), some (jm_I k)], [], M) Q := by
    refine jm_dn ?_
    intro k hk ih k0 n n0 n1 hn
    refine sg_212_4 ?_
    rw [r_121 hg.1 hX]
    refine ⟨_, rfl, fun q => ?_, fun q => ?_⟩
    · rw [hX.2.2]
      refine ⟨k0, by omega, fun p => ⟨⟨by omega, by omega⟩, ⟨by omega, by omega⟩, ih q (by omega) _ (by omega) (by omega) ?_⟩, fun p => ⟨⟨by omega, by omega⟩, ⟨by omega, by omega⟩, ih q (by omega) _ (by omega) (by omega) ?_⟩⟩
      · rw [g_ls_y (P := fun k => 0 < sl k) (e := k) (by omega) p, List.length_cons] at hn
        omega
      · rw [g_ls_n (P := fun k => 0 < sl k) (e := k) (by omega) p] at hn
        omega
    · rw [g_ls_0 (P := fun k => 0 < sl k) k (by omega) (by
        intro v v0 v1 hv
        have := (hg.2 v).2.2 (by omega)
        omega)] at hn
      have hn : ((g_ls (fun k => 0 < sl k) 36 0).length : Int) = n + 0 := hn
      rw [hn, Int.add_zero] at hQ
      exact hQ
  exact L 0 (by omega) (by omega) 0 (by omega) (by omega) (Int.zero_add _).symm
/-- what a node gains -/
abbrev s_ga (w : Int) (sl ca : Int → Int) (n e : Int) : Int := if g_to w sl e = n then ca e else if g_fr sl e = n then -(ca e) else 0
theorem e_61 {w h : Int} {sl ca : Int → Int} {M : jm_Mem} (hg : g_sd w h) (hT : g_tb w h sl M) (hca : ∀ e, g_E w h sl e → M 43 e = ca e) (hcb : c_cb w h sl ca) (x : Int) (Q : jm_Q) : jm_cl 61 [jm_R 42, jm_R 1, jm_I x] M Q ↔ Q (some (jm_I (g_sm (s_ga w sl ca x) (g_el w h sl)))) M := by
  refine jm_cl_e (fun Q hQ => sc_61_S ?_) Q
  have L : ∀ (rest pre : List Int), pre ++ rest = g_el w h sl → ∀ n o5, -(1000 * (pre.length : Int)) ≤ n → n ≤ 1000 * (pre.length : Int) → g_sm (s_ga w sl ca x) (g_el w h sl) = n + g_sm (s_ga w sl ca x) rest → jm_run 61 (4, [some (jm_R 42), some (jm_R 1), some (jm_I x), some (jm_I n), some (jm_I (pre.length : Int)), o5], [], M) Q := by
    intro rest
    induction rest with
    | nil =>
      intro pre hp n o5 n0 n1 hn
      refine sg_61_4_S ⟨fun a => absurd a (tb_nil hT hp), fun _ => ?_⟩
      have hn : g_sm (s_ga w sl ca x) (g_el w h sl) = n + 0 := hn
      rw [hn, Int.add_zero] at hQ
      exact hQ
    | cons e rest ih =>
      intro pre hp n o5 n0 n1 hn
      obtain ⟨t1', t2, t3, t4, t5, t6, t7⟩ := tb_cons hg hT hp
      obtain ⟨b1, b2, -, -⟩ := g_Eb hg t3
      obtain ⟨d1, d2, -, -⟩ := t_E hg hT t3
      have ih := ih (pre ++ [e]) t6
      rw [t7] at ih
      have hn : g_sm (s_ga w sl ca x) (g_el w h sl) = n + ((if g_to w sl e = x then ca e else if g_fr sl e = x then -(ca e) else 0) + g_sm (s_ga w sl ca x) rest) := hn
      have := hcb e t3
      refine sg_61_4_S ⟨fun _ => ?_, fun q => absurd t1' q⟩
      rw [t2, d1, d2, hca e t3]
      refine ⟨t4, t5, b1, b2, fun p => ⟨b1, b2, ⟨by omega, by omega⟩, ⟨by omega, by omega⟩, ih _ _ (by omega) (by omega) ?_⟩, fun p => ⟨b1, b2, fun y => ⟨b1, b2, ⟨by omega, by omega⟩, ⟨by omega, by omega⟩, ih _ _ (by omega) (by omega) ?_⟩, fun y => ⟨⟨by omega, by omega⟩, ih _ _ (by omega) (by omega) ?_⟩⟩⟩
      · rw [if_pos p] at hn; omega
      · rw [if_neg p, if_pos y] at hn; omega
      · rw [if_neg p, if_neg y] at hn; omega
  exact L (g_el w h sl) [] rfl 0 none (by show -(1000 * ((0 : Nat) : Int)) ≤ 0; omega) (by show (0 : Int) ≤ 1000 * ((0 : Nat) : Int); omega) (Int.zero_add _).symm
theorem p_187_16 {w h : Int} {sl ca : Int → Int} {x : Int} {M : jm_Mem} {Q : jm_Q} (hg : g_sd w h) (hX : r_X w h sl M) (hca : ∀ e, g_E w h sl e → M 81 e = ca e) (hcb : c_cb w h sl ca) (h0 : M 67 0 = 0) (hQ : Q (some (jm_I (g_sm (s_ga w sl ca x) (g_el w h sl)))) M) : jm_run 187 (16, [some (jm_R 67), some (jm_I x), some (jm_I 0), some (jm_I 0)], [], M) Q := by
  have L : ∀ e, e ≤ 108 → 0 ≤ e → ∀ n, -(1000 * e) ≤ n → n ≤ 1000 * e → g_sm (s_ga w sl ca x) (g_el w h sl) = n + g_sm (s_ga w sl ca x) (g_ls (fun e => g_E w h sl e) 108 e) → jm_run 187 (16, [some (jm_R 67), some (jm_I x), some (jm_I n), some (jm_I e)], [], M) Q := by
    refine jm_dn ?_
    intro e he ih e0 n n0 n1 hn
    by_cases q : e < 108
    · have ih := ih q (by omega)
      refine sg_187_16 ⟨fun _ => ⟨fun _ => ?_, fun z => absurd h0 z⟩, fun z => absurd q z⟩
      rw [r_124 hg hX]
      refine ⟨_, rfl, fun p => ⟨⟨by omega, by omega⟩, ih _ (by omega) (by omega) ?_⟩, fun p => ?_⟩
      · rw [g_ls_n (P := fun e => g_E w h sl e) q (jm_B0.1 p)] at hn
        exact hn
      · rw [g_ls_y (P := fun e => g_E w h sl e) q (jm_Bn.1 p)] at hn
        have hn : g_sm (s_ga w sl ca x) (g_el w h sl) = n + ((if g_to w sl e = x then ca e else if g_fr sl e = x then -(ca e) else 0) + g_sm (s_ga w sl ca x) (g_ls (fun e => g_E w h sl e) 108 (e + 1))) := hn
        have := hcb e (jm_Bn.1 p)
        rw [r_126 hg hX e0 q, hca e (jm_Bn.1 p)]
        refine ⟨_, rfl, fun y => ⟨e0, q, ⟨by omega, by omega⟩, ⟨by omega, by omega⟩, ih _ (by omega) (by omega) ?_⟩, fun y => ?_⟩
        · rw [if_pos y] at hn; omega
        · rw [if_neg y] at hn
          rw [r_125 hX e0 q, hca e (jm_Bn.1 p)]
          refine ⟨_, rfl, fun z => ⟨e0, q, ⟨by omega, by omega⟩, ⟨by omega, by omega⟩, ⟨by omega, by omega⟩, ih _ (by omega) (by omega) ?_⟩, fun z => ⟨⟨by omega, by omega⟩, ⟨by omega, by omega⟩, ih _ (by omega) (by omega) ?_⟩⟩
          · rw [if_pos z] at hn; omega
          · rw [if_neg z] at hn; omega
    · rw [g_ls_z (by omega)] at hn
      have hn : g_sm (s_ga w sl ca x) (g_el w h sl) = n + 0 := hn
      rw [hn, Int.add_zero] at hQ
      exact sg_187_16 ⟨fun z => absurd z q, fun _ => hQ⟩
  exact L 0 (by omega) (by omega) 0 (by omega) (by omega) (Int.zero_add _).symm
/-- how many edges a face has -/
abbrev s_ar (w h : Int) (sl : Int → Int) (f : Int) (l : List Int) : Int := ((l.filter (fun e => decide (g_lf w h sl e = f ∨ g_rt w h sl e = f))).length : Int)
theorem p_153_13 {w h : Int} {sl : Int → Int} {f : Int} {M : jm_Mem} {Q : jm_Q} (hg : g_sd w h) (hX : r_X w h sl M) (h0 : M 67 0 = 0) (hQ : Q (some (jm_I (s_ar w h sl f (g_el w h sl)))) M) : jm_run 153 (13, [some (jm_R 67), some (jm_I f), some (jm_I 0), some (jm_I 0)], [], M) Q := by
  have L : ∀ e, e ≤ 108 → 0 ≤ e → ∀ n, 0 ≤ n → n ≤ e → s_ar w h sl f (g_el w h sl) = n + s_ar w h sl f (g_ls (fun e => g_E w h sl e) 108 e) → jm_run 153 (13, [some (jm_R 67), some (jm_I f), some (jm_I n), some (jm_I e)], [], M) Q := by
    refine jm_dn ?_
    intro e he ih e0 n n0 n1 hn
    by_cases q : e < 108
    · have ih := ih q (by omega)
      refine sg_153_13 ⟨fun _ => ⟨fun _ => ?_, fun z => absurd h0 z⟩, fun z => absurd q z⟩
      rw [r_152 hg hX]
      refine ⟨_, rfl, fun p => ⟨⟨by omega, by omega⟩, ⟨by omega, by omega⟩, ih _ (by omega) (by omega) ?_⟩, fun p => ⟨⟨by omega, by omega⟩, ⟨by omega, by omega⟩, ih _ (by omega) (by omega) ?_⟩⟩
      · rw [jm_B0] at p
        rw [Int.add_zero, hn]
        by_cases hE : g_E w h sl e
        · rw [g_ls_y (P := fun e => g_E w h sl e) q hE]
          show n + ((List.filter _ (e :: _)).length : Int) = _
          rw [List.filter_cons_of_neg (by rw [decide_eq_true_iff]; exact fun z => p ⟨hE, z⟩)]
        · rw [g_ls_n (P := fun e => g_E w h sl e) q hE]
      · obtain ⟨hE, hf⟩ := jm_Bn.1 p
        rw [hn, g_ls_y (P := fun e => g_E w h sl e) q hE]
        show n + ((List.filter _ (e :: _)).length : Int) = _
        rw [List.filter_cons_of_pos (by rw [decide_eq_true_iff]; exact hf), List.length_cons]
        show _ = n + 1 + ((List.filter _ (g_ls (fun e => g_E w h sl e) 108 (e + 1))).length : Int)
        omega
    · rw [g_ls_z (by omega)] at hn
      have hn : s_ar w h sl f (g_el w h sl) = n + 0 := hn
      rw [hn, Int.add_zero] at hQ
      exact sg_153_13 ⟨fun z => absurd z q, fun _ => hQ⟩
  exact L 0 (by omega) (by omega) 0 (by omega) (by omega) (Int.zero_add _).symm
theorem t_ar {w h : Int} {sl : Int → Int} {M : jm_Mem} (hT : g_tb w h sl M) {f : Int} (f0 : 0 ≤ f) (f1 : f < 73) : M 12 f = s_ar w h sl f (g_el w h sl) := (t_pl hT).2.2.2.2.1 f f0 f1
